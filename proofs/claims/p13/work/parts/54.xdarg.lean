section XB
theorem pb_grp {C : Nat → Nat} {room : Nat} : ∀ (f d : Nat) (acc : List Nat) (T : pm_T) (a : List Nat) (T' : pm_T), pm_grp true C room f d acc T = (some a, T') → acc.length ≤ room → a.length ≤ room := by
  intro f
  induction f with
  | zero => intro d acc T a T' h; cases h
  | succ f ih =>
    intro d acc T a T' h hl
    rcases e : pm_take 3 C T with ⟨_ | t, T1⟩
    · simp only [pm_grp, e] at h; cases h
    · simp only [pm_grp, e] at h
      split at h
      · cases h; exact hl
      · split at h
        · cases h
        · next hn => exact ih _ _ _ _ _ h (by rw [List.length_append]; simp only [List.length_cons, List.length_nil]; have : ¬ room ≤ acc.length := fun z => hn ⟨trivial, z⟩; omega)
theorem pb_del {C : Nat → Nat} {room : Nat} {dl : List Nat} : ∀ (f d : Nat) (og : Bool) (acc : List Nat) (T : pm_T) (a : List Nat) (T' : pm_T), pm_del true C room dl f d og acc T = (some a, T') → acc.length ≤ room + pm_ob og d → a.length ≤ room := by
  intro f
  induction f with
  | zero => intro d og acc T a T' h; cases h
  | succ f ih =>
    intro d og acc T a T' h hl
    rcases hx : (if d = 0 then pm_ah C dl T else (some false, T)) with ⟨_ | _ | _, T1⟩
    · simp only [pm_del, hx] at h; cases h
    · simp only [pm_del, hx] at h
      rcases e : pm_take 3 C T1 with ⟨_ | t, T2⟩
      · simp only [e] at h; cases h
      · simp only [e] at h
        split at h
        · cases h
        · split at h
          · cases h
          · next hn => exact ih _ _ _ _ _ _ h (by rw [List.length_append]; simp only [List.length_cons, List.length_nil]; have : ¬ room + pm_ob (pm_og og d t acc) (pm_nest t d) ≤ acc.length := fun z => hn ⟨trivial, z⟩; omega)
    · have hd0 : d = 0 := by
        by_cases hd0 : d = 0
        · exact hd0
        · rw [if_neg hd0] at hx; cases hx
      simp only [pm_del, hx] at h
      cases h
      unfold pm_ob at hl
      cases og with
      | false => exact hl
      | true =>
        rw [if_pos rfl, if_neg (by omega)] at hl
        rw [if_pos rfl, List.length_dropLast, List.length_tail]
        omega
theorem pb_arg {C : Nat → Nat} {room : Nat} {dl : List Nat} {T T' : pm_T} {a : List Nat} (h : pm_arg true C room dl T = (some a, T')) : a.length ≤ room := by
  unfold pm_arg at h
  split at h
  · rcases e : pm_sp C (pm_len T + 1) T with ⟨_ | t, T1⟩
    · simp only [pm_und, e] at h; cases h
    · simp only [pm_und, e] at h
      split at h
      · cases h
      · split at h
        · exact pb_grp _ _ _ _ _ _ h (Nat.zero_le _)
        · split at h
          · cases h
          · next hn =>
            cases h
            have : ¬ room ≤ 0 := fun z => hn ⟨trivial, z⟩
            show 1 ≤ room
            omega
  · exact pb_del _ _ _ _ _ _ _ h (Nat.zero_le _)
end XB
section XO
variable {L : List Nat} {lim : Nat} {mm ar ast ae : Nat → Int32} {au al hc : Int32} {u : SX} {post : SX → Prop} {f1 f2 f3 f4 f5 f6 f7 f8 f9 f10 f11 f12 f13 f14 : Int32} {a1 a2 a3 a4 a5 a6 a7 a8 a9 a10 a11 a12 a13 a14 a15 : Nat → Int32}
theorem xo_end {P : pm_P} {k U A : Nat} {acc : List Nat} {og : Bool} (hk : k < 10) (hR : xr_R L lim P mm ar ast ae (nI (U + acc.length)) (nI A) hc (f1, f2, f3, f4, f5, f6, f7, f8, f9, f10, f11, f12, f13, f14, a1, a2, a3, a4, a5, a6, a7, a8, a9, a10, a11, a12, a13, a14, a15)) (hs : ast k = nI U) (hog : og = true → 1 ≤ acc.length) (hU : U < 2000)
    (Kf : og = false → ∀ ae' u', ae' k = nI (U + acc.length) → (∀ j, j ≠ k → ae' j = ae j) → xr_R L lim P mm ar ast ae' (nI (U + acc.length)) (nI A) hc u' → post u')
    (Kt : og = true → ∀ ast' ae' u', ast' k = nI (U + 1) → ae' k = nI (U + acc.length - 1) → (∀ j, j ≠ k → ast' j = ast j ∧ ae' j = ae j) → xr_R L lim P mm ar ast' ae' (nI (U + acc.length)) (nI (A + 2)) hc u' → post u') : wpX_endDelimitedArgument post (f1, f2, f3, f4, f5, f6, f7, f8, f9, f10, f11, f12, f13, f14, a1, a2, a3, a4, a5, a6, a7, a8, a9, a10, a11, a12, a13, a14, a15) (nI k) (xa_b og) := by
  obtain ⟨z1, z2, z3, z4, z5, z6, z7, z8⟩ := xh_st hR
  subst z3 z4 z6 z7 z8
  have v : vp_in (nI k) 10 := vp_in_nI hk (by decide)
  have cl : (nI k).toNatClampNeg = k := nI_clamp (by omega)
  refine ⟨v, fun ae' e1 => ?_⟩
  rw [cl] at e1
  cases og with
  | false =>
    refine br_t rfl (Kf rfl ae' _ (by rw [e1, pk_us]) (fun j hj => by rw [e1, pk_un hj]) ?_)
    exact xe_sc hR _ _ _ _ _
  | true =>
    have h1 := hog rfl
    refine br_f ci_10 ⟨v, v, fun ast' e2 => ⟨v, v, fun ae'' e3 => nm_r (show nI A + 2 = nI (A + 2) from nI_add A 2) ?_⟩⟩
    rw [cl, hs, nI_1] at e2
    have e4 : nI (U + acc.length) - 1 = nI (U + acc.length - 1) := pk_sub (b := 1) (by omega)
    rw [cl, e1, pk_us, e4] at e3
    refine Kt rfl ast' ae'' _ (by rw [e2, pk_us]) (by rw [e3, pk_us]) (fun j hj => ⟨by rw [e2, pk_un hj], by rw [e3, pk_un hj, pk_un hj]⟩) ?_
    exact xe_sc hR _ _ _ _ _
theorem xo_stop {P : pm_P} {x1 x4 x5 x6 : Int32} {p n N step : Nat} (hn : 0 < n) (hp : p + n < 5000) (hst : step < 1000000) (hR : xr_R L lim P mm ar ast ae au al hc (f1, f2, f3, f4, f5, f6, f7, f8, f9, f10, f11, f12, f13, f14, a1, a2, a3, a4, a5, a6, a7, a8, a9, a10, a11, a12, a13, a14, a15)) (h0 : P.1.1 ≠ 0) (K : post (f1, f2, f3, f4, f5, f6, f7, f8, f9, f10, f11, f12, f13, f14, a1, a2, a3, a4, a5, a6, a7, a8, a9, a10, a11, a12, a13, a14, a15)) : wX_readDelimitedArgument_15 post x1 (nI p) (nI (p + n)) x4 (N + 1) x5 x6 (nI step) f1 f2 f3 f4 f5 f6 f7 f8 f9 f10 f11 f12 f13 f14 a1 a2 a3 a4 a5 a6 a7 a8 a9 a10 a11 a12 a13 a14 a15 := by
  refine br_f (nI_ge (b := 1000000) hst (by decide)) (br_c (fun _ => ?_) (fun _ => ?_))
  · refine ⟨1, br_f (nI_ge (by omega) (by omega)) (xk_take0 hR h0 (br_t rfl ?_))⟩
    exact br_t rfl (xk_take0 hR h0 (br_t rfl K))
  · exact xk_take0 hR h0 (br_t rfl K)
/-- an argument as it lies when it has been read -/
def xe_O (k U A : Nat) (ast ae ar' ast' ae' : Nat → Int32) (n A' : Nat) (a : List Nat) : Prop :=
  ∃ s, ast' k = nI s ∧ ae' k = nI (s + a.length) ∧ (∀ j, j < a.length → ar' (s + j) = nI (a.getD j 0)) ∧ s + a.length ≤ n ∧ U ≤ s ∧ n + A = A' + U + a.length ∧ A' ≤ A + 2 ∧ ∀ j, j ≠ k → ast' j = ast j ∧ ae' j = ae j
theorem xo_tail {acc : List Nat} {j : Nat} (h2 : 2 ≤ acc.length) (hj : j < acc.tail.dropLast.length) : acc.tail.dropLast.getD j 0 = acc.getD (j + 1) 0 := by
  cases acc with
  | nil => exact absurd h2 (by decide)
  | cons x xs =>
    have hj' : j < xs.dropLast.length := hj
    rw [List.length_dropLast] at hj'
    show xs.dropLast.getD j 0 = xs.getD j 0
    rw [List.getD_eq_getElem?_getD, List.getD_eq_getElem?_getD, List.getElem?_dropLast, if_pos hj']
theorem xo_delL {C : Nat → Nat} {dl : List Nat} {k p U A : Nat} {q : (Nat → pm_Mn) × List pm_Sv × Nat × List Nat × List Nat × Nat} (hL : xr_I L) (hC : ∀ a, a < 128 → C a < 8) (hk : k < 10) (hp : 1 ≤ p) (hp2 : p ≤ 2300) (hd1 : 0 < dl.length) (h8 : dl.length ≤ 8) (hdt : ∀ t, t ∈ dl → t < 4096) (hD : ∀ j, j < dl.length → mm (p + j) = nI (dl.getD j 0)) (hA : A ≤ 272) (hUA : U ≤ A) (hs : ast k = nI U) :
    ∀ (f d : Nat) (og : Bool) (acc : List Nat) (T : pm_T) (ar : Nat → Int32) (N step : Nat) (f1 f2 f3 f4 f5 f6 f7 f8 f9 f10 f11 f12 f13 f14 : Int32) (a1 a2 a3 a4 a5 a6 a7 a8 a9 a10 a11 a12 a13 a14 a15 : Nat → Int32), pm_len T < f → f + 1 < N → step + f ≤ 999999 → d + f ≤ 1000000 → acc.length + f ≤ 1000 → (og = true → 1 ≤ acc.length ∧ (d = 0 → 2 ≤ acc.length)) → xr_R L lim (T, C, q) mm ar ast ae (nI (U + acc.length)) (nI A) hc (f1, f2, f3, f4, f5, f6, f7, f8, f9, f10, f11, f12, f13, f14, a1, a2, a3, a4, a5, a6, a7, a8, a9, a10, a11, a12, a13, a14, a15) → pi_I lim (T, C, q) → T.1 = 0 → xe_C ar U acc →
    (∀ T' ar' ast' ae' au' al' u', pm_del true C (A - U) dl f d og acc T = (none, T') → xr_R L lim (T', C, q) mm ar' ast' ae' au' al' hc u' → post u') →
    (∀ a T' ar' ast' ae' n A' u', pm_del true C (A - U) dl f d og acc T = (some a, T') → (∀ j, j < U → ar' j = ar j) → xe_O k U A ast ae ar' ast' ae' n A' a → xr_R L lim (T', C, q) mm ar' ast' ae' (nI n) (nI A') hc u' → post u') →
    wX_readDelimitedArgument_15 post (nI k) (nI p) (nI (p + dl.length)) (nI U) N (nI d) (xa_b og) (nI step) f1 f2 f3 f4 f5 f6 f7 f8 f9 f10 f11 f12 f13 f14 a1 a2 a3 a4 a5 a6 a7 a8 a9 a10 a11 a12 a13 a14 a15 := by
  intro f
  induction f with
  | zero => intro d og acc T ar N step f1 f2 f3 f4 f5 f6 f7 f8 f9 f10 f11 f12 f13 f14 a1 a2 a3 a4 a5 a6 a7 a8 a9 a10 a11 a12 a13 a14 a15 h; omega
  | succ f ih =>
    intro d og acc T ar N step f1 f2 f3 f4 f5 f6 f7 f8 f9 f10 f11 f12 f13 f14 a1 a2 a3 a4 a5 a6 a7 a8 a9 a10 a11 a12 a13 a14 a15 hf hN hst hdf hac hog hR hI h0 hacc K0 K1
    obtain ⟨N, rfl⟩ : ∃ m, N = m + 1 := ⟨N - 1, by omega⟩
    have hx0 : ∀ og : Bool, xa_b og = 0 ↔ og = false := fun og => by cases og <;> simp [xa_b] <;> decide
    -- the part behind the delimiter's test
    have h44 : ∀ (T1 : pm_T) (f1 f2 f3 f4 f5 f6 f7 f8 f9 f10 f11 f12 f13 f14 : Int32) (a1 a2 a3 a4 a5 a6 a7 a8 a9 a10 a11 a12 a13 a14 a15 : Nat → Int32), (if d = 0 then pm_ah C dl T else (some false, T)) = (some false, T1) → xr_R L lim (T1, C, q) mm ar ast ae (nI (U + acc.length)) (nI A) hc (f1, f2, f3, f4, f5, f6, f7, f8, f9, f10, f11, f12, f13, f14, a1, a2, a3, a4, a5, a6, a7, a8, a9, a10, a11, a12, a13, a14, a15) → pi_to T T1 → T1.1 = 0 →
        wX_readDelimitedArgument_44 post (wX_readDelimitedArgument_15 post (nI k) (nI p) (nI (p + dl.length)) (nI U) N) (nI k) (nI p) (nI (p + dl.length)) (nI U) (nI d) (xa_b og) (nI step) f1 f2 f3 f4 f5 f6 f7 f8 f9 f10 f11 f12 f13 f14 a1 a2 a3 a4 a5 a6 a7 a8 a9 a10 a11 a12 a13 a14 a15 := by
      intro T1 f1 f2 f3 f4 f5 f6 f7 f8 f9 f10 f11 f12 f13 f14 a1 a2 a3 a4 a5 a6 a7 a8 a9 a10 a11 a12 a13 a14 a15 hx hR1 g1 g0
      have hI1 := pi_toI hI g1
      have gl : pm_len T1 ≤ pm_len T := g1.2.2
      refine xt_take (e := 3) hL hR1 hI1 g0 (by decide) (fun t T2 u2 e2 hR2 => ?_) (fun T2 u2 e2 hR2 => ?_)
      · have e2' : pm_take 3 C T1 = (some t, T2) := e2
        obtain ⟨p1, p2, p3, p4⟩ := pi_tk g1.1 hC g0 e2'
        have p4' : pm_len T2 + 1 ≤ pm_len T1 := p4
        have hb := xs_tok p1.1.1.2.1 p3
        have hI2 := pi_toI hI1 p1
        have hcat : pm_cat t < 8 := by unfold pm_cat; split <;> omega
        have hnl : pm_nest t d ≤ d + 1 := by unfold pm_nest; split <;> (try split) <;> omega
        obtain ⟨f1, f2, f3, f4, f5, f6, f7, f8, f9, f10, f11, f12, f13, f14, a1, a2, a3, a4, a5, a6, a7, a8, a9, a10, a11, a12, a13, a14, a15⟩ := u2
        obtain ⟨z1, z2, z3, z4, z5, z6, z7, z8⟩ := xh_st hR2
        refine br_f (xh_n1 (by omega)) (xh_cat (by omega) ?_)
        have hd0 : nI d = 0 ↔ d = 0 := nI_eq (b := 0) (by omega) (by decide)
        have hc2 : nI (pm_cat t) = 2 ↔ pm_cat t = 2 := nI_eq (b := 2) (by omega) (by decide)
        have hc1 : nI (pm_cat t) = 1 ↔ pm_cat t = 1 := nI_eq (b := 1) (by omega) (by decide)
        by_cases hbad : d = 0 ∧ pm_cat t = 2
        · refine br_t (hd0.mpr hbad.1) (br_t (hc2.mpr hbad.2) (K0 (pm_err 8 T2) ar ast ae (nI (U + acc.length)) (nI A) _ ?_ (xh_err (k := 8) (by decide) hR2)))
          simp only [pm_del, hx, e2', if_pos hbad]
        · have h141 : ∀ ob : Nat, ob = pm_ob (pm_og og d t acc) (pm_nest t d) → wX_readDelimitedArgument_141 post (wX_readDelimitedArgument_15 post (nI k) (nI p) (nI (p + dl.length)) (nI U) N) (nI k) (nI p) (nI (p + dl.length)) (nI U) (nI (pm_nest t d)) (xa_b (pm_og og d t acc)) (nI step) (nI t) (nI ob) f1 f2 f3 f4 f5 f6 f7 f8 f9 f10 f11 f12 f13 f14 a1 a2 a3 a4 a5 a6 a7 a8 a9 a10 a11 a12 a13 a14 a15 := fun ob hob => by
            have hob2 : ob ≤ 2 := by rw [hob]; unfold pm_ob; split <;> (try split) <;> omega
            refine xe_add (by omega) hR2 (by omega) hacc (fun h16 u3 hR3 => ?_) (fun h16 ar' u3 c1 c2 hR3 => ?_)
            · obtain ⟨f1, f2, f3, f4, f5, f6, f7, f8, f9, f10, f11, f12, f13, f14, a1, a2, a3, a4, a5, a6, a7, a8, a9, a10, a11, a12, a13, a14, a15⟩ := u3
              obtain ⟨N, rfl⟩ : ∃ m, N = m + 1 := ⟨N - 1, by omega⟩
              refine nm_r (nI_1 _) (xo_stop hd1 (by omega) (by omega) hR3 (show (16 : Nat) ≠ 0 by decide) (K0 (pm_err 16 T2) ar ast ae _ _ _ ?_ hR3))
              simp only [pm_del, hx, e2', if_neg hbad]
              rw [if_pos ⟨trivial, by rw [← hob]; omega⟩]
            · obtain ⟨f1, f2, f3, f4, f5, f6, f7, f8, f9, f10, f11, f12, f13, f14, a1, a2, a3, a4, a5, a6, a7, a8, a9, a10, a11, a12, a13, a14, a15⟩ := u3
              have hrec : pm_del true C (A - U) dl (f + 1) d og acc T = pm_del true C (A - U) dl f (pm_nest t d) (pm_og og d t acc) (acc ++ [t]) T2 := by
                simp only [pm_del, hx, e2', if_neg hbad]
                rw [if_neg (fun z => h16 (by have := z.2; rw [← hob] at this; omega))]
              refine nm_r (nI_1 _) (ih (pm_nest t d) (pm_og og d t acc) (acc ++ [t]) T2 ar' N (step + 1) _ _ _ _ _ _ _ _ _ _ _ _ _ _ _ _ _ _ _ _ _ _ _ _ _ _ _ _ _ (by omega) (by omega) (by omega) (by omega) (by rw [List.length_append]; simp only [List.length_cons, List.length_nil]; omega) (fun ho => ?_) hR3 hI2 p2 c1 (fun T' ar2 ast' ae' au' al' u' q1 => K0 T' ar2 ast' ae' au' al' u' (by rw [hrec]; exact q1)) (fun a T' ar2 ast' ae' n A' u' q1 q2 => K1 a T' ar2 ast' ae' n A' u' (by rw [hrec]; exact q1) (fun j hj => (q2 j hj).trans (c2 j hj))))
              rw [List.length_append]
              simp only [List.length_cons, List.length_nil]
              refine ⟨by omega, fun hz => ?_⟩
              unfold pm_og at ho
              by_cases hdz : d = 0
              · rw [if_pos hdz] at ho
                have hct : pm_cat t = 1 := by
                  rw [Bool.and_eq_true] at ho
                  exact eq_of_beq ho.1
                unfold pm_nest at hz
                rw [if_pos hct] at hz
                omega
              · rw [if_neg hdz] at ho
                have := (hog ho).1
                omega
          have h111 : wX_readDelimitedArgument_111 post (wX_readDelimitedArgument_15 post (nI k) (nI p) (nI (p + dl.length)) (nI U) N) (nI k) (nI p) (nI (p + dl.length)) (nI U) (nI d) (xa_b (pm_og og d t acc)) (nI step) (nI t) (nI (pm_cat t)) f1 f2 f3 f4 f5 f6 f7 f8 f9 f10 f11 f12 f13 f14 a1 a2 a3 a4 a5 a6 a7 a8 a9 a10 a11 a12 a13 a14 a15 := by
            refine xd_nest (fun hc => ?_) hcat fun r er => nm_r er ?_
            · rcases Nat.eq_zero_or_pos d with z | z
              · exact absurd ⟨z, hc⟩ hbad
              · exact z
            · cases ho : pm_og og d t acc with
              | false =>
                rw [ho] at h141
                exact br_t rfl (h141 0 (by unfold pm_ob; rfl))
              | true =>
                rw [ho] at h141
                refine br_f ci_10 ?_
                by_cases hz : pm_nest t d = 0
                · refine br_t (by rw [hz]; exact nI_le (a := 0) (b := 0) (by decide) (by decide)) (h141 2 ?_)
                  unfold pm_ob
                  rw [if_pos rfl, if_neg (by omega)]
                · refine br_f (nI_nle (by omega) (by omega)) (h141 1 ?_)
                  unfold pm_ob
                  rw [if_pos rfl, if_pos (by omega)]
          have h84 : wX_readDelimitedArgument_84 post (wX_readDelimitedArgument_15 post (nI k) (nI p) (nI (p + dl.length)) (nI U) N) (nI k) (nI p) (nI (p + dl.length)) (nI U) (nI d) (xa_b og) (nI step) (nI t) (nI (pm_cat t)) f1 f2 f3 f4 f5 f6 f7 f8 f9 f10 f11 f12 f13 f14 a1 a2 a3 a4 a5 a6 a7 a8 a9 a10 a11 a12 a13 a14 a15 := by
            by_cases hdz : d = 0
            · have eo : pm_og og d t acc = (pm_cat t == 1 && acc.isEmpty) := by unfold pm_og; rw [if_pos hdz]
              refine br_t (hd0.mpr hdz) ?_
              by_cases hct : pm_cat t = 1
              · refine br_t (hc1.mpr hct) ?_
                by_cases hem : acc = []
                · refine br_t (by rw [z3, hem]; rfl) ?_
                  have : pm_og og d t acc = true := by rw [eo, hct, hem]; rfl
                  rw [this] at h111
                  exact h111
                · have hpos : 0 < acc.length := List.length_pos_iff.mpr hem
                  refine br_f (fun z => by rw [z3] at z; have := (nI_eq (by omega) (by omega)).mp z; omega) ?_
                  have : pm_og og d t acc = false := by
                    rw [eo]
                    cases acc with
                    | nil => exact absurd rfl hem
                    | cons y ys => exact Bool.and_false _
                  rw [this] at h111
                  exact h111
              · refine br_f (fun z => hct (hc1.mp z)) ?_
                have : pm_og og d t acc = false := by
                  rw [eo, show (pm_cat t == 1) = false from by simpa using hct]
                  rfl
                rw [this] at h111
                exact h111
            · refine br_f (fun z => hdz (hd0.mp z)) ?_
              have : pm_og og d t acc = og := by unfold pm_og; rw [if_neg hdz]
              rw [this] at h111
              exact h111
          by_cases hdz : d = 0
          · exact br_t (hd0.mpr hdz) (br_f (fun z => hbad ⟨hdz, hc2.mp z⟩) h84)
          · exact br_f (fun z => hdz (hd0.mp z)) h84
      · have e2' : pm_take 3 C T1 = (none, T2) := e2
        obtain ⟨f1, f2, f3, f4, f5, f6, f7, f8, f9, f10, f11, f12, f13, f14, a1, a2, a3, a4, a5, a6, a7, a8, a9, a10, a11, a12, a13, a14, a15⟩ := u2
        refine br_t rfl (K0 T2 ar ast ae (nI (U + acc.length)) (nI A) _ ?_ hR2)
        simp only [pm_del, hx, e2']
    refine br_f (nI_ge (b := 1000000) (by omega) (by decide)) ?_
    by_cases hd : d = 0
    · have hxd : ∀ y, (if d = 0 then pm_ah C dl T else (some false, T)) = y ↔ pm_ah C dl T = y := fun y => by rw [if_pos hd]
      refine br_t (by rw [hd]; rfl) ?_
      refine xq_dl hL hC hp hp2 h8 hdt hD hR hI h0 (fun T1 u1 e1 hR1 => ?_) (fun T1 u1 e1 hR1 => ?_) (fun T1 u1 e1 hR1 => ?_)
      · obtain ⟨g1, g2, g3, g4⟩ := pi_ah hC dl T _ _ hI.1 h0 h8 e1
        have k := K0 T1 ar ast ae (nI (U + acc.length)) (nI A) u1 (by simp only [pm_del, (hxd _).mpr e1]) hR1
        obtain ⟨f1, f2, f3, f4, f5, f6, f7, f8, f9, f10, f11, f12, f13, f14, a1, a2, a3, a4, a5, a6, a7, a8, a9, a10, a11, a12, a13, a14, a15⟩ := u1
        exact br_t rfl (xk_take0 hR1 (g3 rfl) (br_t rfl k))
      · obtain ⟨g1, g2, g3, g4⟩ := pi_ah hC dl T _ _ hI.1 h0 h8 e1
        have hdel : pm_del true C (A - U) dl (f + 1) d og acc T = (some (if og = true then acc.tail.dropLast else acc), T1) := by simp only [pm_del, (hxd _).mpr e1]
        obtain ⟨f1, f2, f3, f4, f5, f6, f7, f8, f9, f10, f11, f12, f13, f14, a1, a2, a3, a4, a5, a6, a7, a8, a9, a10, a11, a12, a13, a14, a15⟩ := u1
        refine br_f ci_10 (xo_end hk hR1 hs (fun ho => (hog ho).1) (by omega) (fun ho ae' u2 y1 y2 hR2 => ?_) (fun ho ast' ae' u2 y1 y2 y3 hR2 => ?_))
        · rw [if_neg (by rw [ho]; decide)] at hdel
          have k := K1 acc T1 ar ast ae' (U + acc.length) A u2 hdel (fun j _ => rfl) ⟨U, hs, y1, hacc, Nat.le_refl _, Nat.le_refl _, by omega, by omega, fun j hj => ⟨rfl, y2 j hj⟩⟩ hR2
          obtain ⟨f1, f2, f3, f4, f5, f6, f7, f8, f9, f10, f11, f12, f13, f14, a1, a2, a3, a4, a5, a6, a7, a8, a9, a10, a11, a12, a13, a14, a15⟩ := u2
          exact k
        · rw [if_pos ho] at hdel
          have h2 := (hog ho).2 hd
          have hl : acc.tail.dropLast.length = acc.length - 2 := by rw [List.length_dropLast, List.length_tail]; omega
          have k := K1 acc.tail.dropLast T1 ar ast' ae' (U + acc.length) (A + 2) u2 hdel (fun j _ => rfl) ⟨U + 1, y1, by rw [y2, hl]; exact congrArg nI (by omega), fun j hj => by rw [xo_tail h2 hj, show U + 1 + j = U + (j + 1) from by omega]; exact hacc (j + 1) (by omega), by omega, by omega, by omega, by omega, y3⟩ hR2
          obtain ⟨f1, f2, f3, f4, f5, f6, f7, f8, f9, f10, f11, f12, f13, f14, a1, a2, a3, a4, a5, a6, a7, a8, a9, a10, a11, a12, a13, a14, a15⟩ := u2
          exact k
      · obtain ⟨g1, g2, g3, g4⟩ := pi_ah hC dl T _ _ hI.1 h0 h8 e1
        have hx := (hxd _).mpr e1
        obtain ⟨f1, f2, f3, f4, f5, f6, f7, f8, f9, f10, f11, f12, f13, f14, a1, a2, a3, a4, a5, a6, a7, a8, a9, a10, a11, a12, a13, a14, a15⟩ := u1
        exact br_t rfl (h44 T1 _ _ _ _ _ _ _ _ _ _ _ _ _ _ _ _ _ _ _ _ _ _ _ _ _ _ _ _ _ hx hR1 g1 (g2 _ rfl))
    · refine br_f (nI_ne0 (by omega) (by omega)) (h44 T _ _ _ _ _ _ _ _ _ _ _ _ _ _ _ _ _ _ _ _ _ _ _ _ _ _ _ _ _ (by rw [if_neg hd]) hR (pi_to_rf hI.1) h0)
end XO
