section ZA
variable {L : List Nat} {lim : Nat} {w : yr_W} {ar ast aln : Nat → Int32} {rn : Int32} {v : SY} {post : SY → Prop} {F1 F2 F3 F4 F5 F6 F7 F8 F9 F10 F11 F12 : Int32} {A1 A2 A3 A4 A5 A6 A7 A8 A9 A10 A11 A12 A13 A14 A15 A16 A17 A18 A19 : Nat → Int32}
theorem za_dep : ∀ l : List Nat, yz_dep l ≤ l.length := by
  have key : ∀ (l : List Nat) (d : Nat), l.foldl (fun d t => pm_nest t d) d ≤ d + l.length := by
    intro l
    induction l with
    | nil => intro d; exact Nat.le_refl _
    | cons t l ih =>
      intro d
      have h1 := ih (pm_nest t d)
      have h2 : pm_nest t d ≤ d + 1 := by unfold pm_nest; split <;> (try split) <;> omega
      have h3 : (t :: l).length = l.length + 1 := rfl
      show l.foldl (fun d t => pm_nest t d) (pm_nest t d) ≤ _
      omega
  intro l
  have := key l 0
  unfold yz_dep
  omega
theorem za_delL {C : Nat → Nat} {room n ds k s : Nat} {dl : List Nat} {q : (Nat → pm_Mn) × List pm_Sv × Nat × List Nat × List Nat × Nat} (hL : xr_I L) (hC : ∀ a, a < 128 → C a < 8) (hk : k < 10) (hs : s ≤ 256) (hn : n < 32) (hds : ds + dl.length ≤ 8) (hdt : ∀ t, t ∈ dl → t < 4096) (hD : ∀ j, j < dl.length → w.2.2.2.2.1 (n * 8 + ds + j) = nI (dl.getD j 0)) :
    ∀ (f d : Nat) (og : Bool) (acc : List Nat) (T : pm_T) (ar : Nat → Int32) (N g : Nat) (F1 F2 F3 F4 F5 F6 F7 F8 F9 F10 F11 F12 : Int32) (A1 A2 A3 A4 A5 A6 A7 A8 A9 A10 A11 A12 A13 A14 A15 A16 A17 A18 A19 : Nat → Int32), pm_len T < f → f < N → g + f ≤ 1000 → acc.length + f ≤ 520 → (og = true ↔ yz_one acc) → d = yz_dep acc → (∀ i, i < acc.length → pm_cat (acc.getD i 0) = 2 → 0 < yz_dep (acc.take i)) → (∀ t, t ∈ acc → t < 2048) → yr_R L lim (T, C, q) w ar ast aln rn (F1, F2, F3, F4, F5, F6, F7, F8, F9, F10, F11, F12, A1, A2, A3, A4, A5, A6, A7, A8, A9, A10, A11, A12, A13, A14, A15, A16, A17, A18, A19) → pi_I lim (T, C, q) → T.1 = 0 → xe_C ar s acc →
    (∀ r T' ar' aln' v', pm_del false C room dl f d og acc T = (r, T') → (∀ j, j < s → ar' j = ar j) → (∀ a, r = some a → xe_C ar' s a ∧ aln' = upd aln k (nI a.length)) → yr_R L lim (T', C, q) w ar' ast aln' rn v' → post v') →
    wY_scanArg_203 post (nI n) (nI ds) (nI (ds + dl.length)) (nI k) (nI s) N (nI acc.length) (nI d) (nI g) F1 F2 F3 F4 F5 F6 F7 F8 F9 F10 F11 F12 A1 A2 A3 A4 A5 A6 A7 A8 A9 A10 A11 A12 A13 A14 A15 A16 A17 A18 A19 := by
  intro f
  induction f with
  | zero => intro d og acc T ar N g F1 F2 F3 F4 F5 F6 F7 F8 F9 F10 F11 F12 A1 A2 A3 A4 A5 A6 A7 A8 A9 A10 A11 A12 A13 A14 A15 A16 A17 A18 A19 h; omega
  | succ f ih =>
    intro d og acc T ar N g F1 F2 F3 F4 F5 F6 F7 F8 F9 F10 F11 F12 A1 A2 A3 A4 A5 A6 A7 A8 A9 A10 A11 A12 A13 A14 A15 A16 A17 A18 A19 hf hN hg hac hog hd hok htk hR hI h0 hacc K
    obtain ⟨N, rfl⟩ : ∃ m, N = m + 1 := ⟨N - 1, by omega⟩
    have hdb := za_dep acc
    have h229 : ∀ (T1 : pm_T) (F1 F2 F3 F4 F5 F6 F7 F8 F9 F10 F11 F12 : Int32) (A1 A2 A3 A4 A5 A6 A7 A8 A9 A10 A11 A12 A13 A14 A15 A16 A17 A18 A19 : Nat → Int32), (if d = 0 then pm_ah C dl T else (some false, T)) = (some false, T1) → yr_R L lim (T1, C, q) w ar ast aln rn (F1, F2, F3, F4, F5, F6, F7, F8, F9, F10, F11, F12, A1, A2, A3, A4, A5, A6, A7, A8, A9, A10, A11, A12, A13, A14, A15, A16, A17, A18, A19) → pi_to T T1 → T1.1 = 0 →
        wY_scanArg_229 post (wY_scanArg_203 post (nI n) (nI ds) (nI (ds + dl.length)) (nI k) (nI s) N) (nI n) (nI ds) (nI (ds + dl.length)) (nI k) (nI s) (nI acc.length) (nI d) (nI g) F1 F2 F3 F4 F5 F6 F7 F8 F9 F10 F11 F12 A1 A2 A3 A4 A5 A6 A7 A8 A9 A10 A11 A12 A13 A14 A15 A16 A17 A18 A19 := by
      intro T1 F1 F2 F3 F4 F5 F6 F7 F8 F9 F10 F11 F12 A1 A2 A3 A4 A5 A6 A7 A8 A9 A10 A11 A12 A13 A14 A15 A16 A17 A18 A19 hx hR1 g1 g0
      have hI1 := pi_toI hI g1
      have gl : pm_len T1 ≤ pm_len T := g1.2.2
      refine br_t (yk_f0 hR1 g0) ?_
      refine yk_need hL hR1 hI1 g0 (fun t T2 v2 e2 hR2 => ?_) (fun T2 v2 e2 hne hR2 => ?_)
      · have e2' : pm_take 3 C T1 = (some t, T2) := e2
        obtain ⟨p1, p2, p3, p4⟩ := pi_tk g1.1 hC g0 e2'
        have p4' : pm_len T2 + 1 ≤ pm_len T1 := p4
        have hb := xs_tok p1.1.1.2.1 p3
        have hI2 := pi_toI hI1 p1
        have hc1 := yp_c (k := 1) hb (by decide) (by decide)
        have hc2 := yp_c (k := 2) hb (by decide) (by decide)
        obtain ⟨F1, F2, F3, F4, F5, F6, F7, F8, F9, F10, F11, F12, A1, A2, A3, A4, A5, A6, A7, A8, A9, A10, A11, A12, A13, A14, A15, A16, A17, A18, A19⟩ := v2
        obtain ⟨z1, z2, z3, z4, z5, z6, z7, z8, z9⟩ := yl_tab hR2
        subst z7 z8 z9
        refine br_t (yk_f0 hR2 p2) ?_
        have h287 : ¬ (d = 0 ∧ pm_cat t = 2) → wY_scanArg_287 post (wY_scanArg_203 post (nI n) (nI ds) (nI (ds + dl.length)) (nI k) (nI s) N) (nI n) (nI ds) (nI (ds + dl.length)) (nI k) (nI s) (nI acc.length) (nI t) (nI (pm_nest t d)) (nI g) F1 F2 F3 F4 F5 F6 F7 F8 F9 F10 F11 F12 A1 A2 A3 A4 A5 A6 A7 A8 A9 A10 A11 A12 A13 A14 A15 A16 A17 A18 A19 := fun hbad => by
          have e : nI s + nI acc.length = nI (s + acc.length) := nI_add _ _
          refine ⟨by rw [e]; exact vp_in_nI (by omega) (by decide), fun ar' y => nm_r (nI_1 _) (nm_r (nI_1 _) ?_)⟩
          rw [e, nI_clamp (by omega)] at y
          subst y
          have hrec : pm_del false C room dl (f + 1) d og acc T = pm_del false C room dl f (pm_nest t d) (pm_og og d t acc) (acc ++ [t]) T2 := by
            simp only [pm_del, hx, e2', if_neg hbad]
            rw [if_neg (fun z => nomatch z.1)]
          have := ih (pm_nest t d) (pm_og og d t acc) (acc ++ [t]) T2 (upd A16 (s + acc.length) (nI t)) N (g + 1) _ _ _ _ _ _ _ _ _ _ _ _ _ _ _ _ _ _ _ _ _ _ _ _ _ _ _ _ _ _ _ (by omega) (by omega) (by omega) (by rw [List.length_append]; simp only [List.length_cons, List.length_nil]; omega) (yz_og hd hog) (by rw [yz_snoc, ← hd]) (fun i hi hc => ?_) (fun y hy => ?_) (yx_sc hR2 _ _ _) hI2 p2 (xe_C_push hacc) (fun r T' ar2 aln' v' q1 q2 q3 q4 => K r T' ar2 aln' v' (by rw [hrec]; exact q1) (fun j hj => (q2 j hj).trans (pk_un (by omega))) q3 q4)
          · rw [List.length_append] at this
            exact this
          · rw [List.length_append] at hi
            simp only [List.length_cons, List.length_nil] at hi
            by_cases ei : i = acc.length
            · subst ei
              rw [xr_getD_append_here] at hc
              rw [List.take_left' rfl, ← hd]
              rcases Nat.eq_zero_or_pos d with z | z
              · exact absurd ⟨z, hc⟩ hbad
              · exact z
            · rw [xr_getD_append_left (by omega)] at hc
              rw [List.take_append_of_le_length (by omega)]
              exact hok i (by omega) hc
          · rcases List.mem_append.mp hy with hy | hy
            · exact htk y hy
            · cases List.mem_singleton.mp hy
              exact hb
        rw [yp_shr (by omega)]
        by_cases c1 : pm_cat t = 1
        · have hn1 : pm_nest t d = d + 1 := by unfold pm_nest; rw [if_pos c1]
          have k := h287 (fun z => by omega)
          rw [hn1] at k
          refine br_t (hc1.mpr c1) (nm_r (nI_1 _) (br_f (fun z => ?_) k))
          rw [yp_shr (by omega)] at z
          have := hc2.mp z
          omega
        · refine br_f (fun z => c1 (hc1.mp z)) ?_
          by_cases c2 : pm_cat t = 2
          · refine br_t (by rw [yp_shr (by omega)]; exact hc2.mpr c2) ?_
            by_cases hz : d = 0
            · refine br_t (by rw [hz]; rfl) (K none (pm_err 8 T2) A16 A18 _ ?_ (fun j _ => rfl) (fun a ha => (nomatch ha)) (yk_err (k := 8) (by decide) hR2))
              simp only [pm_del, hx, e2', if_pos (show d = 0 ∧ pm_cat t = 2 from ⟨hz, c2⟩)]
            · have hn1 : pm_nest t d = d - 1 := by unfold pm_nest; rw [if_neg c1, if_pos c2]
              have k := h287 (fun z => hz z.1)
              rw [hn1] at k
              exact br_f (nI_ne0 (by omega) (by omega)) (nm_r (show nI d + (-1) = nI (d - 1) by rw [xg_m1]; exact pk_sub (b := 1) (by omega)) k)
          · have hn1 : pm_nest t d = d := by unfold pm_nest; rw [if_neg c1, if_neg c2]
            have k := h287 (fun z => c2 z.2)
            rw [hn1] at k
            refine br_f (fun z => ?_) k
            rw [yp_shr (by omega)] at z
            exact c2 (hc2.mp z)
      · have e2' : pm_take 3 C T1 = (none, T2) := e2
        have k := K none T2 ar aln v2 (by simp only [pm_del, hx, e2']) (fun j _ => rfl) (fun a ha => (nomatch ha)) hR2
        obtain ⟨F1, F2, F3, F4, F5, F6, F7, F8, F9, F10, F11, F12, A1, A2, A3, A4, A5, A6, A7, A8, A9, A10, A11, A12, A13, A14, A15, A16, A17, A18, A19⟩ := v2
        exact br_f (yk_f1 hR2 hne) k
    refine br_f (nI_ge (b := 1000) (by omega) (by decide)) ?_
    by_cases hz : d = 0
    · have hxd : ∀ y, (if d = 0 then pm_ah C dl T else (some false, T)) = y ↔ pm_ah C dl T = y := fun y => by rw [if_pos hz]
      refine br_t (by rw [hz]; rfl) ?_
      refine yw_ahead hL hC hn hds hdt hD hR hI h0 (fun T1 v1 e1 hne hR1 => ?_) (fun T1 v1 e1 hR1 => ?_) (fun T1 v1 e1 hR1 => ?_)
      · have k := K none T1 ar aln v1 (by simp only [pm_del, (hxd _).mpr e1]) (fun j _ => rfl) (fun a ha => (nomatch ha)) hR1
        obtain ⟨F1, F2, F3, F4, F5, F6, F7, F8, F9, F10, F11, F12, A1, A2, A3, A4, A5, A6, A7, A8, A9, A10, A11, A12, A13, A14, A15, A16, A17, A18, A19⟩ := v1
        exact br_t rfl (br_f (yk_f1 hR1 hne) k)
      · have hdel : pm_del false C room dl (f + 1) d og acc T = (some (if og = true then acc.tail.dropLast else acc), T1) := by simp only [pm_del, (hxd _).mpr e1]
        obtain ⟨F1, F2, F3, F4, F5, F6, F7, F8, F9, F10, F11, F12, A1, A2, A3, A4, A5, A6, A7, A8, A9, A10, A11, A12, A13, A14, A15, A16, A17, A18, A19⟩ := v1
        obtain ⟨z1, z2, z3, z4, z5, z6, z7, z8, z9⟩ := yl_tab hR1
        subst z7 z8 z9
        refine br_f ci_10 (yz_308 (og := og) hk hs (by omega) hacc (fun j => xs_getD htk (by decide)) hok (fun i => ?_) (by omega) hog (fun ar' aln' y1 y2 y3 => K _ T1 ar' aln' _ hdel y2 (fun a ha => by cases ha; exact ⟨y1, y3⟩) (yx_sc hR1 _ _ _)))
        have h1 := za_dep (acc.take i)
        have h2 : (acc.take i).length ≤ acc.length := by rw [List.length_take]; omega
        omega
      · obtain ⟨g1, g2, g3, g4⟩ := pi_ah hC dl T _ _ hI.1 h0 (by omega) e1
        have hx := (hxd _).mpr e1
        obtain ⟨F1, F2, F3, F4, F5, F6, F7, F8, F9, F10, F11, F12, A1, A2, A3, A4, A5, A6, A7, A8, A9, A10, A11, A12, A13, A14, A15, A16, A17, A18, A19⟩ := v1
        exact br_t rfl (h229 T1 _ _ _ _ _ _ _ _ _ _ _ _ _ _ _ _ _ _ _ _ _ _ _ _ _ _ _ _ _ _ _ hx hR1 g1 (g2 _ rfl))
    · exact br_f (nI_ne0 (by omega) (by omega)) (h229 T _ _ _ _ _ _ _ _ _ _ _ _ _ _ _ _ _ _ _ _ _ _ _ _ _ _ _ _ _ _ _ (by rw [if_neg hz]) hR (pi_to_rf hI.1) h0)
end ZA
