section XR
/-- the class's state u shows the machine's state P; the cells to work in are mm (64 and on), ar, as, ae, au, al, hc -/
def xr_R (L : List Nat) (lim : Nat) (P : pm_P) (mm ar ast ae : Nat → Int32) (au al hc : Int32) (u : SX) : Prop :=
  match P with
  | ((st, rest, ps, ns), C, M, S, d, c, o, x) => ∃ (ip pc : Int32) (inp out pend cat nch nl si sl sv cd held : Nat → Int32),
    u = (nI lim, nI x, nI st, nI L.length, ip, nI o.length, pc, nI ns.length, nI S.length, nI d, nI c.length, au, al, hc, inp, out, pend, cat, nch, nl, mm, si, sl, sv, cd, ar, ast, ae, held) ∧
    xr_L inp L ∧ (st < 100 ∧ (st = 0 → (∃ pre, L = pre ++ rest ∧ ip = nI pre.length) ∧ pc = nI ps.length ∧ xr_S pend ps)) ∧ xr_L out o ∧ (∀ j, j < 128 → cat j = nI (C j)) ∧ xr_N nl nch ns ∧ (∀ i, i < 32 → xr_M mm i (M i)) ∧ xr_V si sl sv mm S ∧ xr_S cd c
/-- the input -/
def xr_I (L : List Nat) : Prop := L.length ≤ 256 ∧ ∀ c, c ∈ L → c < 128
variable {L : List Nat} {lim : Nat} {mm ar ast ae : Nat → Int32} {au al hc : Int32} {u : SX} {post : Int32 → SX → Prop}
theorem xr_getW {w : List Nat} {L pre r : List Nat} {a : Nat → Int32} (h : xr_L a L) (hl : L = pre ++ (w ++ r)) : ∀ j, j < w.length → a (pre.length + j) = nI (w.getD j 0) := by
  intro j hj
  rw [h _ (by rw [hl, List.length_append, List.length_append]; omega), hl, List.getD_eq_getElem?_getD, List.getElem?_append_right (by omega), show pre.length + j - pre.length = j from by omega, List.getElem?_append_left hj, ← List.getD_eq_getElem?_getD]
theorem xr_word {C : Nat → Nat} {m : Nat} {r : List Nat} : ∃ t, m :: r = pm_word C m r ++ t := by
  unfold pm_word
  split
  · exact ⟨r.dropWhile (fun c => C c == 5), by rw [List.cons_append, List.takeWhile_append_dropWhile]⟩
  · exact ⟨r, rfl⟩
theorem xt_raw {e : Nat} {ns : List (List Nat)} {C : Nat → Nat} {M : Nat → pm_Mn} {S : List pm_Sv} {d x : Nat} {c o : List Nat} (hL : xr_I L) (hn : pi_ns ns) (hC : ∀ a, a < 128 → C a < 8)
    {pc : Int32} {inp out pend cat nch nl si sl sv cd held : Nat → Int32} (h1 : xr_L inp L) (h2 : xr_L out o) (h3 : ∀ j, j < 128 → cat j = nI (C j)) (h4 : xr_N nl nch ns) (h5 : ∀ i, i < 32 → xr_M mm i (M i)) (h6 : xr_V si sl sv mm S) (h7 : xr_S cd c) (hpc : pc = nI 0) (he1 : e < 100) :
    ∀ (cs pre : List Nat) (n : Nat) (ip : Int32), L = pre ++ cs → cs.length < n →
    (∀ t T' u', pm_raw e C ns cs = (some t, T') → xr_R L lim (T', C, M, S, d, c, o, x) mm ar ast ae au al hc u' → post (nI t) u') →
    (∀ T' u', pm_raw e C ns cs = (none, T') → xr_R L lim (T', C, M, S, d, c, o, x) mm ar ast ae au al hc u' → post (-1) u') → e ≠ 0 →
    wX_takeToken_41 post (nI e) (nI lim) (nI x) 0 (nI L.length) (nI o.length) pc (nI ns.length) (nI S.length) (nI d) (nI c.length) au al hc inp out pend cat nch nl mm si sl sv cd ar ast ae held n (nI pre.length) ip := by
  obtain ⟨hL1, hL2⟩ := hL
  intro cs
  induction cs with
  | nil =>
    intro pre n ip hl hn' K1 K2 he
    obtain ⟨n, rfl⟩ : ∃ m, n = m + 1 := ⟨n - 1, by omega⟩
    refine br_t ?_ (K2 (e, [], [], ns) _ rfl ⟨ip, pc, inp, out, pend, cat, nch, nl, si, sl, sv, cd, held, rfl, h1, ⟨he1, fun z => absurd z he⟩, h2, h3, h4, h5, h6, h7⟩)
    rw [hl, List.append_nil]
    exact nI_le (Nat.le_refl _) (by rw [hl, List.append_nil] at hL1; omega)
  | cons a cs ih =>
    intro pre n ip hl hn' K1 K2 he
    obtain ⟨n, rfl⟩ : ∃ m, n = m + 1 := ⟨n - 1, by omega⟩
    obtain ⟨l1, l2, l3⟩ := xt_lt hl
    have hcm : a < 128 := hL2 a (by rw [hl]; exact List.mem_append_right _ List.mem_cons_self)
    have ea : inp (nI pre.length).toNatClampNeg = nI a := by rw [nI_clamp (by omega)]; rw [hl] at h1; exact xt_at h1
    have ec : cat (nI a).toNatClampNeg = nI (C a) := by rw [nI_clamp (by omega)]; exact h3 a hcm
    have h8 := hC a hcm
    refine br_f (nI_ge l1 (by omega)) ⟨vp_in_nI (by omega) (by decide), nm_r ea ⟨vp_in_nI hcm (by decide), nm_r ec (nm_r (nI_1 _) ?_)⟩⟩
    have eraw : ∀ {x T'}, pm_raw e C ns (a :: cs) = (x, T') ↔ (if C a = 0 then pm_cs C ns cs else if C a = 7 then pm_raw e C ns cs else (some (C a * 128 + a), (0, cs, [], ns))) = (x, T') := Iff.rfl
    by_cases hz : C a = 0
    · refine br_t (by rw [hz]; rfl) ?_
      rw [← l3]
      refine xt_scan (C := C) (pre := pre ++ [a]) (cs := cs) hL1 hL2 h1 h3 hC l2 (fun z => ?_) (fun m r pre' z hp h8' => ?_) (fun m r pre' z hp h8' => ?_)
      · refine br_t rfl (K2 (3, [], [], ns) _ ?_ ⟨_, pc, inp, out, pend, cat, nch, nl, si, sl, sv, cd, held, rfl, h1, ⟨by decide, fun z => (nomatch z)⟩, h2, h3, h4, h5, h6, h7⟩)
        rw [eraw, if_pos hz, z]
        rfl
      · have hm : m < 128 := hL2 m (by rw [l2, z]; exact List.mem_append_right _ List.mem_cons_self)
        have hr : ∀ y, y ∈ r → y < 128 := fun y hy => hL2 y (by rw [l2, z]; exact List.mem_append_right _ (List.mem_cons_of_mem _ hy))
        obtain ⟨w1, w2, w3, w4⟩ := pi_word (C := C) hm hr
        obtain ⟨t, ht⟩ := xr_word (C := C) (m := m) (r := r)
        have hl2 : L = (pre ++ [a]) ++ (pm_word C m r ++ t) := by rw [← ht, ← z]; exact l2
        have hlen : (pre ++ [a]).length + (pm_word C m r).length ≤ 256 := by
          have := congrArg List.length hl2
          rw [List.length_append, List.length_append (as := pm_word C m r)] at this
          omega
        refine br_f (nI_ne0 (by omega) (by omega)) ?_
        have e1 : nI pre.length + 1 = nI (pre ++ [a]).length := by rw [nI_1, l3]
        rw [e1]
        have hlook : pm_raw e C ns (a :: cs) = pm_look ns (pm_word C m r) (pm_rest C m r) := by
          show (if C a = 0 then pm_cs C ns cs else _) = _
          rw [if_pos hz, z]
          show (if 8 < (pm_word C m r).length then _ else _) = _
          rw [if_neg (by omega)]
        refine ⟨ns.length + 1, ?_⟩
        refine xn_2 (s := (pre ++ [a]).length) (w := pm_word C m r) hn h4 h8' hlen w2 (xr_getW h1 hl2) (fun j hj hx => ?_) (fun hf hx => ?_) (fun hf hx nl' ch' hN => ?_) (ns.length + 1) 0 (by omega) (by omega) (fun j hj => absurd hj (Nat.not_lt_zero _))
        · refine K1 (1024 + j) (0, pm_rest C m r, [], ns) _ ?_ ⟨_, pc, inp, out, pend, cat, nch, nl, si, sl, sv, cd, held, rfl, h1, ⟨by decide, fun _ => ⟨⟨pre', hp, rfl⟩, hpc, trivial⟩⟩, h2, h3, h4, h5, h6, h7⟩
          rw [hlook]
          unfold pm_look
          rw [hx, if_pos hj]
        · refine K2 (5, pm_rest C m r, [], ns) _ ?_ ⟨_, pc, inp, out, pend, cat, nch, nl, si, sl, sv, cd, held, rfl, h1, ⟨by decide, fun z => (nomatch z)⟩, h2, h3, h4, h5, h6, h7⟩
          rw [hlook]
          unfold pm_look
          rw [hx, if_neg (Nat.lt_irrefl _), if_pos hf]
        · refine K1 (1024 + ns.length) (0, pm_rest C m r, [], ns ++ [pm_word C m r]) _ ?_ ⟨_, pc, inp, out, pend, cat, ch', nl', si, sl, sv, cd, held, ?_, h1, ⟨by decide, fun _ => ⟨⟨pre', hp, rfl⟩, hpc, trivial⟩⟩, h2, h3, hN, h5, h6, h7⟩
          · rw [hlook]
            unfold pm_look
            rw [hx, if_neg (Nat.lt_irrefl _), if_neg (by omega)]
          · rw [List.length_append]
            rfl
      · refine br_t rfl (K2 (4, pm_rest C m r, [], ns) _ ?_ ⟨_, pc, inp, out, pend, cat, nch, nl, si, sl, sv, cd, held, rfl, h1, ⟨by decide, fun z => (nomatch z)⟩, h2, h3, h4, h5, h6, h7⟩)
        rw [eraw, if_pos hz, z]
        show (if 8 < (pm_word C m r).length then _ else _) = _
        rw [if_pos h8']
    · refine br_f (fun q => hz ((nI_eq (b := 0) (by omega) (by decide)).mp q)) ?_
      by_cases h7' : C a = 7
      · refine br_t (by rw [h7']; rfl) (nm_r (nI_1 _) ?_)
        rw [← l3]
        refine ih (pre ++ [a]) n _ l2 (by simpa using hn') (fun t T' u' q => K1 t T' u' ?_) (fun T' u' q => K2 T' u' ?_) he
        · rw [eraw, if_neg hz, if_pos h7']; exact q
        · rw [eraw, if_neg hz, if_pos h7']; exact q
      · refine br_f (fun q => h7' ((nI_eq (b := 7) (by omega) (by decide)).mp q)) ?_
        have e2 : nI (C a) * 128 + nI a = nI (C a * 128 + a) := by rw [← nI_add, ← pk_mul]; rfl
        rw [e2]
        refine K1 (C a * 128 + a) (0, cs, [], ns) _ ?_ ⟨_, pc, inp, out, pend, cat, nch, nl, si, sl, sv, cd, held, rfl, h1, ⟨by decide, fun _ => ⟨⟨pre ++ [a], l2, by rw [l3]⟩, hpc, trivial⟩⟩, h2, h3, h4, h5, h6, h7⟩
        rw [eraw, if_neg hz, if_neg h7']
theorem xt_take {e : Nat} {T : pm_T} {Q : pm_Q} (hL : xr_I L) (hR : xr_R L lim (T, Q) mm ar ast ae au al hc u) (hI : pi_I lim (T, Q)) (h0 : T.1 = 0) (he : e ≠ 0)
    (K1 : ∀ t T' u', pm_take e Q.1 T = (some t, T') → xr_R L lim (T', Q) mm ar ast ae au al hc u' → post (nI t) u')
    (K2 : ∀ T' u', pm_take e Q.1 T = (none, T') → xr_R L lim (T', Q) mm ar ast ae au al hc u' → post (-1) u') (he1 : e < 100 := by decide) : wpX_takeToken post u (nI e) := by
  obtain ⟨st, rest, ps, ns⟩ := T
  obtain ⟨C, M, S, d, c, o, x⟩ := Q
  obtain ⟨ip, pc, inp, out, pend, cat, nch, nl, si, sl, sv, cd, held, rfl, h1, hs, h2, h3, h4, h5, h6, h7⟩ := hR
  have h0' : st = 0 := h0
  subst h0'
  obtain ⟨⟨pre, hp, rfl⟩, rfl, hS⟩ := hs.2 rfl
  have hlen : ps.length ≤ 256 := hI.1.2.2.2.1
  refine br_t rfl ?_
  cases ps with
  | nil =>
    refine br_t (nI_le (a := 0) (b := 0) (by decide) (by decide)) ⟨rest.length + 1, ?_⟩
    exact xt_raw hL hI.1.1 hI.2.1 h1 h2 h3 h4 h5 h6 h7 rfl he1 rest pre _ _ hp (by omega) K1 K2 he
  | cons t ps =>
    have hlen' : ps.length + 1 ≤ 256 := hlen
    refine br_f (nI_nle (Nat.succ_pos _) (by show ps.length + 1 < 2 ^ 31; omega)) (nm_r (nI_pred ps.length) ⟨vp_in_nI (by omega) (by decide), ?_⟩)
    rw [nI_clamp (by omega), hS.1]
    exact K1 t _ _ rfl ⟨_, _, inp, out, pend, cat, nch, nl, si, sl, sv, cd, held, rfl, h1, ⟨by decide, fun _ => ⟨⟨pre, hp, rfl⟩, rfl, hS.2⟩⟩, h2, h3, h4, h5, h6, h7⟩
end XR
