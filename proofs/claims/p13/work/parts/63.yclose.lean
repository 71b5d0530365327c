section YE
/-- one save restored -/
def ye_res (x : (Nat → Nat) × (Nat → pm_Mn)) (s : pm_Sv) : (Nat → Nat) × (Nat → pm_Mn) := if s.1 < 32 then (x.1, pm_upF x.2 s.1 s.2.2.1) else (pm_upF x.1 (s.1 - 32) s.2.2.2, x.2)
theorem ye_upc {α : Type} {f : Nat → α} {i j : Nat} {a b : α} (h : i ≠ j) : pm_upF (pm_upF f i a) j b = pm_upF (pm_upF f j b) i a := by
  funext k
  unfold pm_upF
  by_cases h1 : k = j
  · rw [if_pos h1, if_neg (by omega), if_pos h1]
  · rw [if_neg h1]
    by_cases h2 : k = i
    · rw [if_pos h2, if_pos h2]
    · rw [if_neg h2, if_neg h2, if_neg h1]
theorem ye_comm {x : (Nat → Nat) × (Nat → pm_Mn)} {a b : pm_Sv} (h : a.1 ≠ b.1) : ye_res (ye_res x a) b = ye_res (ye_res x b) a := by
  unfold ye_res
  by_cases ha : a.1 < 32
  · by_cases hb : b.1 < 32
    · rw [if_pos ha, if_pos hb, if_pos hb, if_pos ha]
      exact congrArg (Prod.mk x.1) (ye_upc h)
    · rw [if_pos ha, if_neg hb, if_neg hb, if_pos ha]
  · by_cases hb : b.1 < 32
    · rw [if_neg ha, if_pos hb, if_pos hb, if_neg ha]
    · rw [if_neg ha, if_neg hb, if_neg hb, if_neg ha]
      exact congrArg (fun y => (y, x.2)) (ye_upc (by omega))
theorem ye_push {a : pm_Sv} : ∀ (B : List pm_Sv) (x : (Nat → Nat) × (Nat → pm_Mn)), (∀ b, b ∈ B → b.1 ≠ a.1) → B.foldl ye_res (ye_res x a) = ye_res (B.foldl ye_res x) a := by
  intro B
  induction B with
  | nil => intro x _; rfl
  | cons b B ih =>
    intro x h
    show B.foldl ye_res (ye_res (ye_res x a) b) = _
    rw [ye_comm (fun z => h b List.mem_cons_self z.symm), ih (ye_res x b) (fun c hc => h c (List.mem_cons_of_mem _ hc))]
    rfl
theorem ye_rev : ∀ (A : List pm_Sv) (x : (Nat → Nat) × (Nat → pm_Mn)), pi_lv A → (∀ s r, s ∈ A → r ∈ A → s.2.1 = r.2.1) → A.reverse.foldl ye_res x = A.foldl ye_res x := by
  intro A
  induction A with
  | nil => intro x _ _; rfl
  | cons a A ih =>
    intro x hl hd
    rw [List.reverse_cons, List.foldl_append]
    show ye_res (A.reverse.foldl ye_res x) a = A.foldl ye_res (ye_res x a)
    rw [ih x hl.2 (fun s r hs hr => hd s r (List.mem_cons_of_mem _ hs) (List.mem_cons_of_mem _ hr))]
    rw [ye_push A x (fun b hb => (hl.1 b hb).2 (hd b a (List.mem_cons_of_mem _ hb) List.mem_cons_self))]
theorem ye_pop {d : Nat} {B : List pm_Sv} (hB : ∀ s, s ∈ B → s.2.1 ≠ d) : ∀ (A : List pm_Sv) (C : Nat → Nat) (M : Nat → pm_Mn), (∀ s, s ∈ A → s.2.1 = d) → pm_pop d (A ++ B) C M = (B, A.foldl ye_res (C, M)) := by
  intro A
  induction A with
  | nil =>
    intro C M _
    cases B with
    | nil => rfl
    | cons s B =>
      show (if s.2.1 = d then _ else _) = _
      rw [if_neg (hB s List.mem_cons_self)]
      rfl
  | cons s A ih =>
    intro C M h
    have hs := h s List.mem_cons_self
    show (if s.2.1 = d then (if s.1 < 32 then pm_pop d (A ++ B) C (pm_upF M s.1 s.2.2.1) else pm_pop d (A ++ B) (pm_upF C (s.1 - 32) s.2.2.2) M) else _) = (B, A.foldl ye_res (ye_res (C, M) s))
    rw [if_pos hs]
    by_cases h32 : s.1 < 32
    · rw [if_pos h32, ih _ _ (fun r hr => h r (List.mem_cons_of_mem _ hr))]
      unfold ye_res
      rw [if_pos h32]
    · rw [if_neg h32, ih _ _ (fun r hr => h r (List.mem_cons_of_mem _ hr))]
      unfold ye_res
      rw [if_neg h32]
theorem ye_lvA {B : List pm_Sv} : ∀ A : List pm_Sv, pi_lv (A ++ B) → pi_lv A ∧ (∀ s r, s ∈ A → r ∈ B → r.2.1 ≤ s.2.1) := by
  intro A
  induction A with
  | nil => intro _; exact ⟨trivial, fun s r hs => (nomatch hs)⟩
  | cons a A ih =>
    intro h
    have h' : pi_lv (a :: (A ++ B)) := h
    obtain ⟨i1, i2⟩ := ih h'.2
    refine ⟨⟨fun r hr => h'.1 r (List.mem_append_left _ hr), i1⟩, fun s r hs hr => ?_⟩
    rcases List.mem_cons.mp hs with e | hs
    · rw [e]; exact (h'.1 r (List.mem_append_right _ hr)).1
    · exact i2 s r hs hr
theorem ye_sav {i d : Nat} : ∀ S : List pm_Sv, pi_lv S → (∀ s, s ∈ S → s.2.1 ≤ d) → (pm_sav i d S = true ↔ ∃ s, s ∈ S ∧ s.1 = i ∧ s.2.1 = d) := by
  intro S hl hd
  refine ⟨?_, fun ⟨s, hs, e1, e2⟩ => Classical.byContradiction fun hn => pi_sav S hl hd hn s hs e2 e1⟩
  clear hl hd
  induction S with
  | nil => intro h; cases h
  | cons s S ih =>
    intro h
    unfold pm_sav at h
    split at h
    · next h1 =>
      split at h
      · next h2 => exact ⟨s, List.mem_cons_self, h2, h1⟩
      · obtain ⟨r, hr, e⟩ := ih h
        exact ⟨r, List.mem_cons_of_mem _ hr, e⟩
    · cases h
end YE
theorem yd_sM_up {M : Nat → pm_Mn} {i : Nat} {m : pm_Mn} (hs : yd_sM M) (h8 : m.2.2.1.length ≤ 8) (h24 : m.2.2.2.length ≤ 24) : yd_sM (pm_upF M i m) := fun j => by
  unfold pm_upF
  split
  · exact ⟨h8, h24⟩
  · exact hs j
section YF
variable {post : SY → Prop} {F1 F2 F3 F4 F5 F6 F7 F8 F9 F10 F11 F12 : Int32} {A1 A2 A3 A4 A5 A6 A7 A8 A9 A10 A11 A12 A13 A14 A15 A16 A17 A18 A19 : Nat → Int32}
/-- the second part of closing a group: the saves of this level, from below -/
theorem yf_close2 {S : List pm_Sv} {d k kk : Nat} (hd : d ≤ 8) (h0 : 0 < d) (hkk : kk ≤ 32) (hS : S.length ≤ 32) (hsv : ∀ s, s ∈ S → pi_sv kk d s) : ∀ (R D : List pm_Sv) (n : Nat) (x : (Nat → Nat) × (Nat → pm_Mn)) (w : yr_W) (cat : Nat → Int32), S = R.reverse ++ D → R.length < n → (∀ s, s ∈ R → s.2.1 = d) → yr_V A13 A14 w S → (∀ j, j < 128 → cat j = nI (x.1 j)) → yd_MM w x.2 → yd_sM x.2 →
    (∀ w' cat', (∀ j, j < 128 → cat' j = nI ((R.foldl ye_res x).1 j)) → yd_MM w' (R.foldl ye_res x).2 → yr_V A13 A14 w' S → post (F1, F2, F3, F4, F5, F6, F7, F8, F9, nI k, nI (d - 1), F12, A1, cat', A3, A4, A5, A6, w'.1, w'.2.1, w'.2.2.1, w'.2.2.2.1, w'.2.2.2.2.1, w'.2.2.2.2.2, A13, A14, A15, A16, A17, A18, A19)) →
    wY_close_18 post n (nI k) (nI D.length) F1 F2 F3 F4 F5 F6 F7 F8 F9 (nI S.length) (nI d) F12 A1 cat A3 A4 A5 A6 (w.1) (w.2.1) (w.2.2.1) (w.2.2.2.1) (w.2.2.2.2.1) (w.2.2.2.2.2) A13 A14 A15 A16 A17 A18 A19 := by
  have ed : nI d - 1 = nI (d - 1) := pk_sub (b := 1) (by omega)
  intro R
  induction R with
  | nil =>
    intro D n x w cat hs hn hR hV hcat hM hsM K
    obtain ⟨n, rfl⟩ : ∃ m, n = m + 1 := ⟨n - 1, by omega⟩
    have el : S.length = D.length := by rw [hs]; rfl
    exact br_t (by rw [el]; exact nI_le (Nat.le_refl _) (by omega)) (nm_r ed (K w cat hcat hM hV))
  | cons s R ih =>
    intro D n x w cat hs hn hR hV hcat hM hsM K
    obtain ⟨n, rfl⟩ : ∃ m, n = m + 1 := ⟨n - 1, by omega⟩
    have hn' : R.length + 1 < n + 1 := hn
    have er : S = R.reverse ++ (s :: D) := by rw [hs, List.reverse_cons, List.append_assoc]; rfl
    have hV' := hV
    rw [er] at hV'
    obtain ⟨v1, v2, v3, v4⟩ := yd_V_mid _ hV'
    have hlt : D.length < S.length := by
      rw [er, List.length_append]
      exact Nat.lt_of_lt_of_le (Nat.lt_succ_self _) (Nat.le_add_left _ _)
    have hsS : s ∈ S := by rw [er]; exact List.mem_append_right _ List.mem_cons_self
    obtain ⟨s1, s2, s3, s4, s5, s6⟩ := hsv s hsS
    have hsd := hR s List.mem_cons_self
    have v : vp_in (nI D.length) 32 := vp_in_nI (by omega) (by decide)
    have cl : (nI D.length).toNatClampNeg = D.length := nI_clamp (by omega)
    have e32 : (32 : Int32) + nI D.length = nI (32 + D.length) := nI_add 32 _
    refine br_f (nI_ge hlt (by omega)) ⟨v, br_t (by rw [cl, v2, hsd]) ⟨v, ?_⟩⟩
    rw [cl, v1, e32]
    have hlen : (s :: D).length = D.length + 1 := rfl
    by_cases h32 : s.1 < 32
    · have ex : ye_res x s = (x.1, pm_upF x.2 s.1 s.2.2.1) := by unfold ye_res; rw [if_pos h32]
      obtain ⟨z8, z24⟩ := (xs_small hkk (Or.inl (s3 h32).2)).2
      refine br_f (nI_ge (a := s.1) (b := 32) h32 (by decide)) ⟨v, yc_copy (by omega) (by omega) (fun w' hc => nm_r (nI_1 _) ?_)⟩
      have hc' : yr_cp w w' (32 + D.length) s.1 := hc
      refine ih (s :: D) n (ye_res x s) w' cat er (by omega) (fun r hr => hR r (List.mem_cons_of_mem _ hr)) (yd_V_cp hc' (Or.inl h32) (yd_sz hkk hsv) hV) (by rw [ex]; exact hcat) (by rw [ex]; exact yd_MM_up hM hsM hc' z8 z24 (v3 h32)) (by rw [ex]; exact yd_sM_up hsM z8 z24) K
    · have ex : ye_res x s = (pm_upF x.1 (s.1 - 32) s.2.2.2, x.2) := by unfold ye_res; rw [if_neg h32]
      have e3 : nI s.1 - 32 = nI (s.1 - 32) := pk_sub (b := 32) (by omega)
      refine br_t (nI_le (a := 32) (by omega) (by omega)) ⟨v, vp_in_nI (by omega) (by decide), by rw [e3]; exact vp_in_nI (by omega) (by decide), fun cat' q => nm_r (nI_1 _) ?_⟩
      rw [e3, nI_clamp (by omega), nI_clamp (by omega), v4 (by omega)] at q
      subst q
      refine ih (s :: D) n (ye_res x s) w _ er (by omega) (fun r hr => hR r (List.mem_cons_of_mem _ hr)) hV (by rw [ex]; exact xg_C_up hcat) (by rw [ex]; exact hM) (by rw [ex]; exact hsM) K
theorem yf_upS {a : Nat → Int32} {k : Nat} {x : Int32} (h : x = a k) : upd a k x = a := by
  funext j
  unfold upd
  split
  · next e => rw [e]; exact h
  · rfl
theorem yf_same {w w' : yr_W} {f s : Nat} {m : pm_Mn} (h : yr_cp w w' f f) (h8 : m.2.2.1.length ≤ 8) (h24 : m.2.2.2.length ≤ 24) (g : yr_M w s m) : yr_M w' s m := by
  by_cases e : s = f
  · subst e; exact yr_cp_to h h8 h24 g
  · exact yr_cp_ne h e h8 h24 g
theorem yf_sameV {w w' : yr_W} {f s : Nat} (h : yr_cp w w' f f) : w'.2.1 s = w.2.1 s := by
  by_cases e : s = f
  · subst e; exact h.1.2.1
  · exact (h.2.1 s e).2.1
theorem yf_close1 {S : List pm_Sv} {d kk : Nat} {C : Nat → Nat} {M : Nat → pm_Mn} (hd : d ≤ 8) (h0 : 0 < d) (hkk : kk ≤ 32) (hS : S.length ≤ 32) (hsv : ∀ s, s ∈ S → pi_sv kk d s) (hlv : pi_lv S) (hcat : ∀ j, j < 128 → A2 j = nI (C j)) (hsM : yd_sM M) : ∀ (R D : List pm_Sv) (n : Nat) (w : yr_W), S = R.reverse ++ D → R.length < n → (∀ s, s ∈ D → s.2.1 ≠ d) → yr_V A13 A14 w S → yd_MM w M →
    (∀ w' cat', (∀ j, j < 128 → cat' j = nI ((pm_pop d S C M).2.1 j)) → yd_MM w' (pm_pop d S C M).2.2 → yr_V A13 A14 w' (pm_pop d S C M).1 → post (F1, F2, F3, F4, F5, F6, F7, F8, F9, nI (pm_pop d S C M).1.length, nI (d - 1), F12, A1, cat', A3, A4, A5, A6, w'.1, w'.2.1, w'.2.2.1, w'.2.2.2.1, w'.2.2.2.2.1, w'.2.2.2.2.2, A13, A14, A15, A16, A17, A18, A19)) →
    wY_close_18 post n (nI D.length) (nI D.length) F1 F2 F3 F4 F5 F6 F7 F8 F9 (nI S.length) (nI d) F12 A1 A2 A3 A4 A5 A6 (w.1) (w.2.1) (w.2.2.1) (w.2.2.2.1) (w.2.2.2.2.1) (w.2.2.2.2.2) A13 A14 A15 A16 A17 A18 A19 := by
  have ed : nI d - 1 = nI (d - 1) := pk_sub (b := 1) (by omega)
  intro R
  induction R with
  | nil =>
    intro D n w hs hn hD hV hM K
    obtain ⟨n, rfl⟩ : ∃ m, n = m + 1 := ⟨n - 1, by omega⟩
    have hs' : S = D := hs
    have hp : pm_pop d S C M = (S, (C, M)) := by
      have := ye_pop (d := d) (B := S) (by rw [hs']; exact hD) [] C M (fun s hs => (nomatch hs))
      exact this
    rw [hp] at K
    refine br_t (by rw [hs']; exact nI_le (Nat.le_refl _) (by rw [← hs']; omega)) (nm_r ed ?_)
    have k := K w A2 hcat hM hV
    rw [← hs']
    exact k
  | cons s R ih =>
    intro D n w hs hn hD hV hM K
    have hn' : R.length + 1 < n := hn
    have er : S = R.reverse ++ (s :: D) := by rw [hs, List.reverse_cons, List.append_assoc]; rfl
    have hV' := hV
    rw [er] at hV'
    obtain ⟨v1, v2, v3, v4⟩ := yd_V_mid _ hV'
    have hlt : D.length < S.length := by
      rw [er, List.length_append]
      exact Nat.lt_of_lt_of_le (Nat.lt_succ_self _) (Nat.le_add_left _ _)
    have hsS : s ∈ S := by rw [er]; exact List.mem_append_right _ List.mem_cons_self
    obtain ⟨s1, s2, s3, s4, s5, s6⟩ := hsv s hsS
    by_cases hsd : s.2.1 = d
    · -- from here on all are of this level
      have hlv' := hlv
      rw [er] at hlv'
      obtain ⟨q1, q2⟩ := ye_lvA R.reverse hlv'
      have hR : ∀ r, r ∈ s :: R → r.2.1 = d := fun r hr => by
        rcases List.mem_cons.mp hr with e | hr
        · rw [e]; exact hsd
        · have a1 := q2 r s (List.mem_reverse.mpr hr) List.mem_cons_self
          have a2 := (hsv r (by rw [er]; exact List.mem_append_left _ (List.mem_reverse.mpr hr))).2.2.2.2.2
          omega
      have hA : ∀ r, r ∈ (s :: R).reverse → r.2.1 = d := fun r hr => hR r (List.mem_reverse.mp hr)
      have hlvS := hlv
      rw [hs] at hlvS
      have hp : pm_pop d S C M = (D, (s :: R).foldl ye_res (C, M)) := by
        have h1 := ye_pop (d := d) (B := D) hD (s :: R).reverse C M hA
        have h2 := ye_rev (s :: R).reverse (C, M) (ye_lvA _ hlvS).1 (fun a b ha hb => (hA a ha).trans (hA b hb).symm)
        rw [List.reverse_reverse] at h2
        rw [hs, h1, h2]
      rw [hp] at K
      refine yf_close2 (k := D.length) hd h0 hkk hS hsv (s :: R) D n (C, M) w A2 hs hn hR hV hcat hM hsM (fun w' cat' k1 k2 k3 => K w' cat' k1 k2 ?_)
      rw [hs] at k3
      exact yd_V_tail _ k3
    · obtain ⟨n, rfl⟩ : ∃ m, n = m + 1 := ⟨n - 1, by omega⟩
      have v : vp_in (nI D.length) 32 := vp_in_nI (by omega) (by decide)
      have cl : (nI D.length).toNatClampNeg = D.length := nI_clamp (by omega)
      have e32 : (32 : Int32) + nI D.length = nI (32 + D.length) := nI_add 32 _
      refine br_f (nI_ge hlt (by omega)) ⟨v, br_f (fun z => hsd ?_) ⟨v, v, fun si' y1 => ⟨v, v, fun sl' y2 => ?_⟩⟩⟩
      · rw [cl, v2] at z
        exact (nI_eq (by omega) (by omega)).mp z
      · rw [cl, yf_upS rfl] at y1 y2
        subst y1 y2
        rw [e32]
        refine yc_copy (by omega) (by omega) (fun w' hc => nm_r (nI_1 _) (nm_r (nI_1 _) ?_))
        have hc' : yr_cp w w' (32 + D.length) (32 + D.length) := hc
        refine ih (s :: D) n w' er (by omega) (fun r hr => ?_) (yd_V_fr S (fun j _ => ⟨rfl, rfl⟩) (fun j m _ h8 h24 g => yf_same hc' h8 h24 g) (fun j _ => yf_sameV hc') (yd_sz hkk hsv) hV) (fun j hj => yf_same hc' (hsM j).1 (hsM j).2 (hM j hj)) K
        rcases List.mem_cons.mp hr with e | hr
        · rw [e]; exact hsd
        · exact hD r hr
end YF
section YG
variable {L : List Nat} {lim : Nat} {w : yr_W} {ar ast aln : Nat → Int32} {rn : Int32} {v : SY} {post : SY → Prop}
theorem yg_open {P : pm_P} (hR : yr_R L lim P w ar ast aln rn v) (hI : pi_I lim P) (K : ∀ v', yr_R L lim (pm_open P) w ar ast aln rn v' → post v') : wpY_open post v := by
  obtain ⟨⟨st, rest, ps, ns⟩, C, M, S, d, c, o, x⟩ := P
  have hR' := hR
  obtain ⟨ip, pc, inp, cat, pend, out, nl, nch, si, sl, cd, stk, rfl, h1⟩ := hR
  have hd : d ≤ 8 := hI.2.2.2.2.2.2.1
  by_cases h8 : 8 ≤ d
  · refine br_t (by rw [show d = 8 from by omega]; rfl) (K _ ?_)
    simp only [pm_open, if_pos h8]
    exact yk_err (k := 10) (by decide) hR'
  · refine br_f (fun z => by have := (nI_eq (b := 8) (by omega) (by decide)).mp z; omega) (nm_r (nI_1 _) (K _ ?_))
    simp only [pm_open, if_neg h8]
    exact ⟨ip, pc, inp, cat, pend, out, nl, nch, si, sl, cd, stk, rfl, h1⟩
theorem yg_close {P : pm_P} (hR : yr_R L lim P w ar ast aln rn v) (hI : pi_I lim P) (K : ∀ w' v', yr_R L lim (pm_close P) w' ar ast aln rn v' → post v') : wpY_close post v := by
  obtain ⟨⟨st, rest, ps, ns⟩, C, M, S, d, c, o, x⟩ := P
  have hR' := hR
  obtain ⟨ip, pc, inp, cat, pend, out, nl, nch, si, sl, cd, stk, rfl, h1, hs, h2, h3, h4, h5, h6, h7⟩ := hR
  obtain ⟨hT, i1, i2, i3, i4, i5, i6, i7⟩ := hI
  have hk32 : ns.length ≤ 32 := hT.1.2.1
  by_cases h0 : d = 0
  · subst h0
    refine br_t rfl (K w _ ?_)
    simp only [pm_close]
    exact yk_err (k := 9) (by decide) hR'
  · refine br_f (nI_ne0 (by omega) (by omega)) ⟨S.length + 1, ?_⟩
    refine yf_close1 (C := C) (M := M) i6 (by omega) hk32 i3 i4 i5 h3 (yd_sMi hk32 i2) S.reverse [] (S.length + 1) w (by rw [List.reverse_reverse, List.append_nil]) (by rw [List.length_reverse]; omega) (fun s hs => (nomatch hs)) h6 h5 (fun w' cat' c1 c2 c3 => K w' _ ?_)
    simp only [pm_close, if_neg h0]
    exact ⟨ip, pc, inp, cat', pend, out, nl, nch, si, sl, cd, stk, rfl, h1, hs, h2, c1, h4, c2, c3, h7⟩
end YG
