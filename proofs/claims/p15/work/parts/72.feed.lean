section QI
variable {L : List Nat} {u : St1}
/-- an object that has been fed L and has not run -/
def qi_F (L : List Nat) (u : St1) : Prop := xr_I L ∧ ∃ mm ar ast ae : Nat → Int32, ∃ au al hc : Int32, xr_R L 100 ((0, L, [], ci_ns), qb_Q0) mm ar ast ae au al hc u
theorem qi_feed {post : Int32 → St1 → Prop} {c : Nat} (h : qi_F L u) (hc : c < 128) (hl : L.length < 256) (K : ∀ u', qi_F (L ++ [c]) u' → post 1 u') : wpX_feed post u (nI c) := by
  obtain ⟨⟨hL1, hL2⟩, mm, ar, ast, ae, au, al, hcn, ip, pc, inp, out, pend, cat, nch, nl, si, sl, sv, cd, held, rfl, x1, xs, x2⟩ := h
  refine br_t rfl (br_f (nI_pos (by omega)) (br_f (nI_ge (b := 128) hc (by decide)) (br_t (nI_lt (b := 256) hl (by decide)) ⟨vp_in_nI hl (by decide), fun inp' ea => nm_r (nI_1 _) (K _ ?_)⟩)))
  rw [nI_clamp (by omega)] at ea
  subst ea
  have hlen : (L ++ [c]).length = L.length + 1 := by rw [List.length_append]; rfl
  obtain ⟨⟨pre, hp1, hp2⟩, hpc, hps⟩ := xs.2 rfl
  have hp0 : pre = [] := by
    have := congrArg List.length hp1
    rw [List.length_append] at this
    exact List.length_eq_zero_iff.mp (by omega)
  subst hp0
  refine ⟨⟨by omega, fun a ha => ?_⟩, mm, ar, ast, ae, au, al, hcn, ip, pc, _, out, pend, cat, nch, nl, si, sl, sv, cd, held, by rw [hlen], xr_L_push x1, ⟨xs.1, fun _ => ⟨⟨[], rfl, hp2⟩, hpc, hps⟩⟩, x2⟩
  rcases List.mem_append.mp ha with ha | ha
  · exact hL2 a ha
  · cases List.mem_singleton.mp ha
    exact hc
/-- an object that has run to its end -/
def qi_D (ns : List (List Nat)) (Q : pm_Q) (u : St1) : Prop := qb_V ns Q ∧ ∃ (L : List Nat) (mm ar ast ae : Nat → Int32) (au al hc : Int32), xr_R L 100 ((1, [], [], ns), Q) mm ar ast ae au al hc u
theorem qi_I (h : xr_I L) : pi_I 100 ((0, L, [], ci_ns), qb_Q0) := qb_I qb_V0 h.2 h.1
theorem qi_run0 {post : Int32 → St1 → Prop} (h : qi_F L u) (K : ∀ r u', post r u') : wpX_run post u := by
  obtain ⟨hL, mm, ar, ast, ae, au, al, hc, hR⟩ := h
  exact xz_run hL hR (qi_I hL) (fun mm' ar' ast' ae' au' al' hc' u' hu => K _ u')
theorem qi_runB {post : Int32 → St1 → Prop} (h : qi_F L u) (hB : qf_B L) (K : ∀ r k u', 2 ≤ k → k < 100 → (∀ p : Int32 → Prop, p (nI k) → wpX_status p u') → post r u') : wpX_run post u := by
  obtain ⟨hL, mm, ar, ast, ae, au, al, hc, hR⟩ := h
  refine xz_run hL hR (qi_I hL) (fun mm' ar' ast' ae' au' al' hc' u' hu => ?_)
  have hlen := hL.1
  have h2 := qf_bad (F := 70000) hB (by omega)
  generalize pm_run true 100 70000 ((0, L, [], ci_ns), qb_Q0) = P at hu h2
  have hlt := xh_lt hu
  refine K _ P.1.1 u' h2 hlt (fun p hp => ?_)
  obtain ⟨f1, f2, f3, f4, f5, f6, f7, f8, f9, f10, f11, f12, f13, f14, a1, a2, a3, a4, a5, a6, a7, a8, a9, a10, a11, a12, a13, a14, a15⟩ := u'
  have e := (xh_st hu).1
  rw [← e] at hp
  exact hp
theorem qi_runG {post : Int32 → St1 → Prop} {ns : List (List Nat)} {Q : pm_Q} (h : qi_F L u) (hG : qf_G L ns Q) (K : ∀ r u', qi_D ns Q u' → post r u') : wpX_run post u := by
  obtain ⟨hL, mm, ar, ast, ae, au, al, hc, hR⟩ := h
  refine xz_run hL hR (qi_I hL) (fun mm' ar' ast' ae' au' al' hc' u' hu => K _ u' ?_)
  have hlen := hL.1
  have he := qf_end (F := 70000) hG (by omega)
  rw [he] at hu
  exact ⟨hG.1, L, mm', ar', ast', ae', au', al', hc', hu⟩
end QI
section QJ
variable {post : Int32 → Prop} {Ln : Nat} {xs : Nat → Int32} {f1 f2 f3 f4 f5 f6 f7 f8 f9 f10 f11 f12 f13 f14 : Int32} {a1 a2 a3 a4 a5 a6 a7 a8 a9 a10 a11 a12 a13 a14 a15 : Nat → Int32} {g1 g2 g3 g4 g5 g6 g7 g8 g9 g10 g11 g12 g13 g14 : Int32} {b1 b2 b3 b4 b5 b6 b7 b8 b9 b10 b11 b12 b13 b14 b15 : Nat → Int32}
/-- a cell of the script -/
def qj_c (Ln : Nat) (xs : Nat → Int32) (p : Nat) : Int32 := if p < Ln then xs p else 0
theorem qj_cell {post : Int32 → Prop} {p : Nat} (hL : Ln ≤ 260) (hp : p < 2 ^ 31) (K : post (qj_c Ln xs p)) : wpL_cell post Ln xs () (nI p) := by
  unfold qj_c at K
  by_cases h : p < Ln
  · rw [if_pos h] at K
    refine br_f (nI_ge h (by omega)) ⟨vp_in_nI h (by omega), ?_⟩
    rw [nI_clamp hp]
    exact K
  · rw [if_neg h] at K
    exact br_t (nI_le (by omega) hp) K
/-- the command that the cells behind k say, number t -/
def qj_x (Ln : Nat) (xs : Nat → Int32) (k t : Nat) : List Nat := qd_txt t (qh_i t (qj_c Ln xs (k + 1))) (qh_l t (qj_c Ln xs (k + 2)) (qj_c Ln xs (k + 3)) (qj_c Ln xs (k + 4)) (qj_c Ln xs (k + 5)))
theorem qj_x128 {k t : Nat} (ht : t < 8) : ∀ c, c ∈ qj_x Ln xs k t → c < 128 := by
  unfold qj_x
  by_cases h6 : t < 6
  · obtain ⟨o1, o2, o3, o4⟩ := qh_ok (t := t) (c1 := qj_c Ln xs (k + 1)) (c2 := qj_c Ln xs (k + 2)) (c3 := qj_c Ln xs (k + 3)) (c4 := qj_c Ln xs (k + 4)) (c5 := qj_c Ln xs (k + 5)) h6
    have hl : ∀ c, c ∈ qh_l t (qj_c Ln xs (k + 2)) (qj_c Ln xs (k + 3)) (qj_c Ln xs (k + 4)) (qj_c Ln xs (k + 5)) → c < 128 := fun c hc => by
      rcases Nat.lt_or_ge t 2 with z | z
      · have := (o2 z).2 c hc
        omega
      · rcases Nat.lt_or_ge t 4 with z2 | z2
        · obtain ⟨d, e, _, h2⟩ := o3 z z2
          rw [e] at hc
          cases List.mem_singleton.mp hc
          omega
        · obtain ⟨d, e, h2⟩ := o4 z2
          rw [e] at hc
          cases List.mem_singleton.mp hc
          omega
    have htg := (qd_tg (i := qh_i t (qj_c Ln xs (k + 1)))).1
    generalize qh_l t (qj_c Ln xs (k + 2)) (qj_c Ln xs (k + 3)) (qj_c Ln xs (k + 4)) (qj_c Ln xs (k + 5)) = l at hl
    generalize qh_i t (qj_c Ln xs (k + 1)) = i at o1 htg
    have harg : ∀ c, c ∈ qd_arg t i l → c < 128 := fun c hc => by
      unfold qd_arg at hc
      split at hc
      · simp only [List.mem_cons, List.mem_append, List.not_mem_nil, or_false] at hc
        rcases hc with h | h | h | h | h
        · omega
        · omega
        · omega
        · exact hl c h
        · omega
      · split at hc
        · simp only [List.mem_cons] at hc
          rcases hc with h | h | h | h
          · omega
          · omega
          · omega
          · exact hl c h
        · simp only [List.mem_cons] at hc
          rcases hc with h | h | h
          · omega
          · omega
          · exact hl c h
    have hwd : ∀ c, c ∈ qd_w0 t :: qd_wd t → c < 128 := fun c hc => by
      have := qd_wb t h6 c hc
      omega
    intro c hc
    unfold qd_txt at hc
    rw [if_neg (by omega), if_neg (by omega)] at hc
    split at hc
    · rcases List.mem_cons.mp hc with h | hc
      · omega
      · rcases List.mem_cons.mp hc with h | hc
        · omega
        · rcases List.mem_append.mp hc with h | h
          · exact hwd c h
          · exact harg c h
    · rcases List.mem_cons.mp hc with h | hc
      · omega
      · rcases List.mem_cons.mp hc with h | hc
        · exact hwd c (by rw [h]; exact List.mem_cons_self)
        · rcases List.mem_append.mp hc with h | h
          · exact hwd c (List.mem_cons_of_mem _ h)
          · exact harg c h
  · have h67 : t = 6 ∨ t = 7 := by omega
    intro c hc
    unfold qd_txt at hc
    rcases h67 with rfl | rfl
    · rw [if_pos rfl] at hc
      split at hc
      · simp only [List.mem_cons, List.not_mem_nil, or_false] at hc
        omega
      · simp only [List.mem_cons, List.not_mem_nil, or_false] at hc
        omega
    · rw [if_neg (by decide), if_pos rfl] at hc
      split at hc
      · simp only [List.mem_cons, List.not_mem_nil, or_false] at hc
        omega
      · simp only [List.mem_cons, List.not_mem_nil, or_false] at hc
        omega
theorem qj_516 {J : Int32 → Int32 → Int32 → Int32 → Int32 → Int64 → Int64 → Int32 → Int32 → Int32 → Int32 → Int32 → Int32 → Int32 → Int32 → Int32 → Int32 → Int32 → Int32 → Int32 → Int32 → Int32 → (Nat → Int32) → (Nat → Int32) → (Nat → Int32) → (Nat → Int32) → (Nat → Int32) → (Nat → Int32) → (Nat → Int32) → (Nat → Int32) → (Nat → Int32) → (Nat → Int32) → (Nat → Int32) → (Nat → Int32) → (Nat → Int32) → (Nat → Int32) → (Nat → Int32) → Int32 → Int32 → Int32 → Int32 → Int32 → Int32 → Int32 → Int32 → Int32 → Int32 → Int32 → Int32 → Int32 → Int32 → (Nat → Int32) → (Nat → Int32) → (Nat → Int32) → (Nat → Int32) → (Nat → Int32) → (Nat → Int32) → (Nat → Int32) → (Nat → Int32) → (Nat → Int32) → (Nat → Int32) → (Nat → Int32) → (Nat → Int32) → (Nat → Int32) → (Nat → Int32) → (Nat → Int32) → Prop} {x3 x4 x5 x6 x9 x10 x11 : Int32} {gn gc : Int64} {kc ks k t g len : Nat} {toA : Bool} {c1 c2 c3 c4 c5 : Int32} {La Lb : List Nat} {x : List Nat} (ht : t < 8) (hx : x = qd_txt t (qh_i t c1) (qh_l t c2 c3 c4 c5)) (hx24 : x.length < 24) (hxc : ∀ c, c ∈ x → c < 128) (hla : La.length + x.length ≤ 256) (hlb : Lb.length + x.length ≤ 256) (hlen : len ≤ 256)
    (K : ∀ (f1 f2 f3 f4 f5 f6 f7 f8 f9 f10 f11 f12 f13 f14 : Int32) (a1 a2 a3 a4 a5 a6 a7 a8 a9 a10 a11 a12 a13 a14 a15 : Nat → Int32) (g1 g2 g3 g4 g5 g6 g7 g8 g9 g10 g11 g12 g13 g14 : Int32) (b1 b2 b3 b4 b5 b6 b7 b8 b9 b10 b11 b12 b13 b14 b15 : Nat → Int32), qi_F (La ++ (if toA = true then x else [])) (f1, f2, f3, f4, f5, f6, f7, f8, f9, f10, f11, f12, f13, f14, a1, a2, a3, a4, a5, a6, a7, a8, a9, a10, a11, a12, a13, a14, a15) → qi_F (Lb ++ x) (g1, g2, g3, g4, g5, g6, g7, g8, g9, g10, g11, g12, g13, g14, b1, b2, b3, b4, b5, b6, b7, b8, b9, b10, b11, b12, b13, b14, b15) → J (nI (k + 6)) (nI (len + x.length)) x9 x10 x11 gn gc (nI (g + 1)) f1 f2 f3 f4 f5 f6 f7 f8 f9 f10 f11 f12 f13 f14 a1 a2 a3 a4 a5 a6 a7 a8 a9 a10 a11 a12 a13 a14 a15 g1 g2 g3 g4 g5 g6 g7 g8 g9 g10 g11 g12 g13 g14 b1 b2 b3 b4 b5 b6 b7 b8 b9 b10 b11 b12 b13 b14 b15) :
    ∀ (suf pre : List Nat) (N : Nat) (f1 f2 f3 f4 f5 f6 f7 f8 f9 f10 f11 f12 f13 f14 : Int32) (a1 a2 a3 a4 a5 a6 a7 a8 a9 a10 a11 a12 a13 a14 a15 : Nat → Int32) (g1 g2 g3 g4 g5 g6 g7 g8 g9 g10 g11 g12 g13 g14 : Int32) (b1 b2 b3 b4 b5 b6 b7 b8 b9 b10 b11 b12 b13 b14 b15 : Nat → Int32), x = pre ++ suf → suf.length < N → qi_F (La ++ (if toA = true then pre else [])) (f1, f2, f3, f4, f5, f6, f7, f8, f9, f10, f11, f12, f13, f14, a1, a2, a3, a4, a5, a6, a7, a8, a9, a10, a11, a12, a13, a14, a15) → qi_F (Lb ++ pre) (g1, g2, g3, g4, g5, g6, g7, g8, g9, g10, g11, g12, g13, g14, b1, b2, b3, b4, b5, b6, b7, b8, b9, b10, b11, b12, b13, b14, b15) → wL_law_516 post Ln xs J x3 x4 x5 x6 (nI k) x9 x10 x11 gn gc (nI g) (nI t) (if toA = true then 1 else 0) c1 c2 c3 c4 c5 kc ks N (nI (len + pre.length)) (nI pre.length) f1 f2 f3 f4 f5 f6 f7 f8 f9 f10 f11 f12 f13 f14 a1 a2 a3 a4 a5 a6 a7 a8 a9 a10 a11 a12 a13 a14 a15 g1 g2 g3 g4 g5 g6 g7 g8 g9 g10 g11 g12 g13 g14 b1 b2 b3 b4 b5 b6 b7 b8 b9 b10 b11 b12 b13 b14 b15 := by
  intro suf
  induction suf with
  | nil =>
    intro pre N f1 f2 f3 f4 f5 f6 f7 f8 f9 f10 f11 f12 f13 f14 a1 a2 a3 a4 a5 a6 a7 a8 a9 a10 a11 a12 a13 a14 a15 g1 g2 g3 g4 g5 g6 g7 g8 g9 g10 g11 g12 g13 g14 b1 b2 b3 b4 b5 b6 b7 b8 b9 b10 b11 b12 b13 b14 b15 he hN hA hB
    obtain ⟨N, rfl⟩ : ∃ m, N = m + 1 := ⟨N - 1, by omega⟩
    rw [List.append_nil] at he
    subst he
    refine br_f (nI_ge (b := 24) (by omega) (by decide)) ?_
    refine qh_ch ht hx24 ?_
    rw [← hx]
    have e : qh_at x x.length = -1 := by unfold qh_at; rw [if_neg (Nat.lt_irrefl _)]
    rw [e]
    exact br_f (by decide) (nm_r (nI_add k 6) (nm_r (nI_1 _) (K _ _ _ _ _ _ _ _ _ _ _ _ _ _ _ _ _ _ _ _ _ _ _ _ _ _ _ _ _ _ _ _ _ _ _ _ _ _ _ _ _ _ _ _ _ _ _ _ _ _ _ _ _ _ _ _ _ _ hA hB)))
  | cons c suf ih =>
    intro pre N f1 f2 f3 f4 f5 f6 f7 f8 f9 f10 f11 f12 f13 f14 a1 a2 a3 a4 a5 a6 a7 a8 a9 a10 a11 a12 a13 a14 a15 g1 g2 g3 g4 g5 g6 g7 g8 g9 g10 g11 g12 g13 g14 b1 b2 b3 b4 b5 b6 b7 b8 b9 b10 b11 b12 b13 b14 b15 he hN hA hB
    obtain ⟨N, rfl⟩ : ∃ m, N = m + 1 := ⟨N - 1, by omega⟩
    have hN' : suf.length + 1 < N + 1 := hN
    have hl : x.length = pre.length + (suf.length + 1) := by rw [he, List.length_append]; rfl
    have he2 : x = (pre ++ [c]) ++ suf := by rw [he, List.append_assoc]; rfl
    have hl2 : (pre ++ [c]).length = pre.length + 1 := by rw [List.length_append]; rfl
    have hc : c < 128 := hxc c (by rw [he]; exact List.mem_append_right _ List.mem_cons_self)
    refine br_f (nI_ge (b := 24) (by omega) (by decide)) (qh_ch ht (by omega) ?_)
    rw [← hx]
    have e : qh_at x pre.length = nI c := by
      unfold qh_at
      rw [if_pos (by omega), he, xv_at]
    rw [e]
    refine br_t (nI_pos' (by omega)) ?_
    -- the second object is fed
    have go : ∀ (f1 f2 f3 f4 f5 f6 f7 f8 f9 f10 f11 f12 f13 f14 : Int32) (a1 a2 a3 a4 a5 a6 a7 a8 a9 a10 a11 a12 a13 a14 a15 : Nat → Int32), qi_F (La ++ (if toA = true then pre ++ [c] else [])) (f1, f2, f3, f4, f5, f6, f7, f8, f9, f10, f11, f12, f13, f14, a1, a2, a3, a4, a5, a6, a7, a8, a9, a10, a11, a12, a13, a14, a15) → wL_law_562 post Ln xs J (wL_law_516 post Ln xs J x3 x4 x5 x6 (nI k) x9 x10 x11 gn gc (nI g) (nI t) (if toA = true then 1 else 0) c1 c2 c3 c4 c5 kc ks N) x3 x4 x5 x6 (nI k) (nI (len + pre.length)) x9 x10 x11 gn gc (nI g) (nI t) (if toA = true then 1 else 0) c1 c2 c3 c4 c5 (nI pre.length) (nI c) kc ks f1 f2 f3 f4 f5 f6 f7 f8 f9 f10 f11 f12 f13 f14 a1 a2 a3 a4 a5 a6 a7 a8 a9 a10 a11 a12 a13 a14 a15 g1 g2 g3 g4 g5 g6 g7 g8 g9 g10 g11 g12 g13 g14 b1 b2 b3 b4 b5 b6 b7 b8 b9 b10 b11 b12 b13 b14 b15 := fun f1 f2 f3 f4 f5 f6 f7 f8 f9 f10 f11 f12 f13 f14 a1 a2 a3 a4 a5 a6 a7 a8 a9 a10 a11 a12 a13 a14 a15 hA' => by
      refine qi_feed hB hc (by rw [List.length_append]; omega) (fun u' hu => ?_)
      rw [List.append_assoc] at hu
      obtain ⟨g1, g2, g3, g4, g5, g6, g7, g8, g9, g10, g11, g12, g13, g14, b1, b2, b3, b4, b5, b6, b7, b8, b9, b10, b11, b12, b13, b14, b15⟩ := u'
      refine nm_r (nI_1 _) (nm_r (nI_1 _) ?_)
      have := ih (pre ++ [c]) N _ _ _ _ _ _ _ _ _ _ _ _ _ _ _ _ _ _ _ _ _ _ _ _ _ _ _ _ _ _ _ _ _ _ _ _ _ _ _ _ _ _ _ _ _ _ _ _ _ _ _ _ _ _ _ _ _ _ he2 (by omega) hA' hu
      rw [hl2, ← Nat.add_assoc] at this
      exact this
    cases toA with
    | false => exact br_t rfl (go _ _ _ _ _ _ _ _ _ _ _ _ _ _ _ _ _ _ _ _ _ _ _ _ _ _ _ _ _ hA)
    | true =>
      refine br_f (by decide) (qi_feed hA hc (by show (La ++ pre).length < 256; rw [List.length_append]; omega) (fun u' hu => ?_))
      have hu' : qi_F (La ++ (pre ++ [c])) u' := by rw [← List.append_assoc]; exact hu
      obtain ⟨f1, f2, f3, f4, f5, f6, f7, f8, f9, f10, f11, f12, f13, f14, a1, a2, a3, a4, a5, a6, a7, a8, a9, a10, a11, a12, a13, a14, a15⟩ := u'
      exact go _ _ _ _ _ _ _ _ _ _ _ _ _ _ _ _ _ _ _ _ _ _ _ _ _ _ _ _ _ hu'
end QJ
