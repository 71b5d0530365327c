section YP
variable {L : List Nat} {lim : Nat} {w : yr_W} {ar ast aln : Nat → Int32} {rn : Int32} {v : SY} {post : SY → Prop} {F1 F2 F3 F4 F5 F6 F7 F8 F9 F10 F11 F12 : Int32} {A1 A2 A3 A4 A5 A6 A7 A8 A9 A10 A11 A12 A13 A14 A15 A16 A17 A18 A19 : Nat → Int32}
theorem yp_shr {t : Nat} (ht : t < 4096) : nI t >>> ((7 : Int32) &&& 31) = nI (t / 128) := pk_shrN (by omega) _ 7 (by decide)
theorem yp_c {t k : Nat} (ht : t < 2048) (h1 : 1 ≤ k) (h4 : k ≤ 4) : nI (t / 128) = nI k ↔ pm_cat t = k := by
  rw [nI_eq (by omega) (by omega)]
  unfold pm_cat
  split <;> omega
/-- slot 64 while a parameter text is read -/
def yp_P (w : yr_W) (acc : List Nat) : Prop := w.2.2.1 64 = nI acc.length ∧ ∀ j, j < acc.length → w.2.2.2.2.1 (512 + j) = nI (acc.getD j 0)
theorem yp_155 {J48 : Int32 → Int32 → Int32 → Int32 → Int32 → Int32 → Int32 → Int32 → Int32 → Int32 → Int32 → Int32 → Int32 → Int32 → (Nat → Int32) → (Nat → Int32) → (Nat → Int32) → (Nat → Int32) → (Nat → Int32) → (Nat → Int32) → (Nat → Int32) → (Nat → Int32) → (Nat → Int32) → (Nat → Int32) → (Nat → Int32) → (Nat → Int32) → (Nat → Int32) → (Nat → Int32) → (Nat → Int32) → (Nat → Int32) → (Nat → Int32) → (Nat → Int32) → (Nat → Int32) → Prop} {P : pm_P} {x1 x2 x3 : Int32} {t : Nat} {acc : List Nat} (hl : acc.length ≤ 8) (hP : yp_P w acc) (h0r : w.2.2.2.1 64 = 0) (hR : yr_R L lim P w ar ast aln rn (F1, F2, F3, F4, F5, F6, F7, F8, F9, F10, F11, F12, A1, A2, A3, A4, A5, A6, A7, A8, A9, A10, A11, A12, A13, A14, A15, A16, A17, A18, A19)) (hI : pi_I lim P) (K7 : acc.length = 8 → post (F1, F2, 7, F4, F5, F6, F7, F8, F9, F10, F11, F12, A1, A2, A3, A4, A5, A6, A7, A8, A9, A10, A11, A12, A13, A14, A15, A16, A17, A18, A19))
    (Kn : acc.length ≠ 8 → ∀ w' : yr_W, yp_P w' (acc ++ [t]) → w'.2.2.2.1 64 = 0 → yr_R L lim P w' ar ast aln rn (F1, F2, F3, F4, F5, F6, F7, F8, F9, F10, F11, F12, A1, A2, A3, A4, A5, A6, w'.1, w'.2.1, w'.2.2.1, w'.2.2.2.1, w'.2.2.2.2.1, w'.2.2.2.2.2, A13, A14, A15, A16, A17, A18, A19) → J48 x3 (nI (acc.length + 1)) F1 F2 F3 F4 F5 F6 F7 F8 F9 F10 F11 F12 A1 A2 A3 A4 A5 A6 (w'.1) (w'.2.1) (w'.2.2.1) (w'.2.2.2.1) (w'.2.2.2.2.1) (w'.2.2.2.2.2) A13 A14 A15 A16 A17 A18 A19) : wY_def_155 post J48 x1 x2 x3 (nI acc.length) (nI t) F1 F2 F3 F4 F5 F6 F7 F8 F9 F10 F11 F12 A1 A2 A3 A4 A5 A6 A7 A8 A9 A10 A11 A12 A13 A14 A15 A16 A17 A18 A19 := by
  obtain ⟨z1, z2, z3, z4, z5, z6, z7⟩ := yl_tab hR
  have hp64 : A9 64 = nI acc.length := by rw [z3]; exact hP.1
  unfold wY_def_155
  rw [hp64]
  by_cases h8 : acc.length = 8
  · exact br_t (by rw [h8]; rfl) (K7 h8)
  · have e : (512 : Int32) + nI acc.length = nI (512 + acc.length) := nI_add 512 _
    refine br_f (fun z => h8 ((nI_eq (b := 8) (by omega) (by decide)).mp z)) ⟨by rw [e]; exact vp_in_nI (by omega) (by decide), fun px y1 pl y2 => nm_r (nI_1 _) ?_⟩
    rw [e, nI_clamp (by omega)] at y1
    rw [nI_1] at y2
    have k3 : ∀ s, s < 64 → pl s = w.2.2.1 s := fun s hs => by rw [y2, pk_un (by omega), z3]
    have k5 : ∀ j, j < 512 → px j = w.2.2.2.2.1 j := fun j hj => by rw [y1, pk_un (by omega), z5]
    have hw := yl_w (w' := (A7, A8, pl, A10, px, A12)) hR hI (fun s m hs h8' _ gg => ⟨(congrFun z1 s).trans gg.1, (congrFun z2 s).trans gg.2.1, fun zz => ⟨(k3 s hs).trans (gg.2.2 zz).1, (congrFun z4 s).trans (gg.2.2 zz).2.1, fun j hj => (k5 _ (by omega)).trans ((gg.2.2 zz).2.2.1 j hj), fun j hj => (congrFun z6 _).trans ((gg.2.2 zz).2.2.2 j hj)⟩⟩) (fun s hs => congrFun z2 s)
    refine Kn h8 (A7, A8, pl, A10, px, A12) ⟨?_, fun j hj => ?_⟩ ?_ hw
    · show pl 64 = _
      rw [y2, pk_us, List.length_append]
      rfl
    · show px (512 + j) = _
      rw [List.length_append] at hj
      simp only [List.length_cons, List.length_nil] at hj
      rw [y1]
      by_cases ej : j = acc.length
      · subst ej
        rw [pk_us, xr_getD_append_here]
      · rw [pk_un (by omega), xr_getD_append_left (by omega), z5]
        exact hP.2 j (by omega)
    · show A10 64 = 0
      rw [z4]
      exact h0r
theorem yp_ptL {C : Nat → Nat} {x1 x2 : Int32} {q : (Nat → pm_Mn) × List pm_Sv × Nat × List Nat × List Nat × Nat} (hL : xr_I L) (hC : ∀ a, a < 128 → C a < 8) : ∀ (f n : Nat) (acc : List Nat) (T : pm_T) (w : yr_W) (N : Nat) (F1 F2 F3 F4 F5 F6 F7 F8 F9 F10 F11 F12 : Int32) (A1 A2 A3 A4 A5 A6 A7 A8 A9 A10 A11 A12 A13 A14 A15 A16 A17 A18 A19 : Nat → Int32), f + acc.length = 9 → f < N → n ≤ acc.length → yr_R L lim (T, C, q) w ar ast aln rn (F1, F2, F3, F4, F5, F6, F7, F8, F9, F10, F11, F12, A1, A2, A3, A4, A5, A6, A7, A8, A9, A10, A11, A12, A13, A14, A15, A16, A17, A18, A19) → pi_I lim (T, C, q) → T.1 = 0 → yp_P w acc → w.2.2.2.1 64 = 0 → 0 < f →
    (∀ T' w' v', pm_pt C f n acc T = (none, T') → yr_R L lim (T', C, q) w' ar ast aln rn v' → post v') → (∀ m pt T' w' v', pm_pt C f n acc T = (some (m, pt), T') → yr_R L lim (T', C, q) w' ar ast aln rn v' → yp_P w' pt → w'.2.2.2.1 64 = 0 → (match v' with | (F1, F2, F3, F4, F5, F6, F7, F8, F9, F10, F11, F12, A1, A2, A3, A4, A5, A6, A7, A8, A9, A10, A11, A12, A13, A14, A15, A16, A17, A18, A19) => ∃ n215 : Nat, wY_def_215 post x1 x2 (nI m) n215 0 0 F1 F2 F3 F4 F5 F6 F7 F8 F9 F10 F11 F12 A1 A2 A3 A4 A5 A6 A7 A8 A9 A10 A11 A12 A13 A14 A15 A16 A17 A18 A19)) →
    wY_def_48 post x1 x2 N (nI n) (nI acc.length) F1 F2 F3 F4 F5 F6 F7 F8 F9 F10 F11 F12 A1 A2 A3 A4 A5 A6 A7 A8 A9 A10 A11 A12 A13 A14 A15 A16 A17 A18 A19 := by
  intro f
  induction f with
  | zero => intro n acc T w N F1 F2 F3 F4 F5 F6 F7 F8 F9 F10 F11 F12 A1 A2 A3 A4 A5 A6 A7 A8 A9 A10 A11 A12 A13 A14 A15 A16 A17 A18 A19 _ _ _ _ _ _ _ _ h; omega
  | succ f ih =>
    intro n acc T w N F1 F2 F3 F4 F5 F6 F7 F8 F9 F10 F11 F12 A1 A2 A3 A4 A5 A6 A7 A8 A9 A10 A11 A12 A13 A14 A15 A16 A17 A18 A19 hf hN hn hR hI h0 hP h0r _ K0 K1
    obtain ⟨N, rfl⟩ : ∃ m, N = m + 1 := ⟨N - 1, by omega⟩
    refine br_f (nI_ge (b := 20) (by omega) (by decide)) ?_
    refine yk_need hL hR hI h0 (fun t T1 v1 e1 hR1 => ?_) (fun T1 v1 e1 hne hR1 => ?_)
    · have e1' : pm_take 3 C T = (some t, T1) := e1
      obtain ⟨p1, p2, p3, p4⟩ := pi_tk hI.1 hC h0 e1'
      have hb := xs_tok p1.1.1.2.1 p3
      have hI1 := pi_toI hI p1
      have k1 : pm_cat t = 1 → (match v1 with | (F1, F2, F3, F4, F5, F6, F7, F8, F9, F10, F11, F12, A1, A2, A3, A4, A5, A6, A7, A8, A9, A10, A11, A12, A13, A14, A15, A16, A17, A18, A19) => ∃ n215 : Nat, wY_def_215 post x1 x2 (nI n) n215 0 0 F1 F2 F3 F4 F5 F6 F7 F8 F9 F10 F11 F12 A1 A2 A3 A4 A5 A6 A7 A8 A9 A10 A11 A12 A13 A14 A15 A16 A17 A18 A19) := fun c1 => K1 n acc T1 w v1 (by simp only [pm_pt, e1', if_pos c1]) hR1 hP h0r
      obtain ⟨F1, F2, F3, F4, F5, F6, F7, F8, F9, F10, F11, F12, A1, A2, A3, A4, A5, A6, A7, A8, A9, A10, A11, A12, A13, A14, A15, A16, A17, A18, A19⟩ := v1
      refine br_t (yk_f0 hR1 p2) (nm_r (yp_shr (by omega)) ?_)
      by_cases c1 : pm_cat t = 1
      · exact br_t ((yp_c hb (by decide) (by decide)).mpr c1) (k1 c1)
      · refine br_f (fun z => c1 ((yp_c (k := 1) hb (by decide) (by decide)).mp z)) ?_
        by_cases c2 : pm_cat t = 2
        · refine br_t ((yp_c hb (by decide) (by decide)).mpr c2) (K0 (pm_err 6 T1) w _ ?_ (yk_err (k := 6) (by decide) hR1))
          simp only [pm_pt, e1', if_neg c1, if_pos c2]
        · refine br_f (fun z => c2 ((yp_c (k := 2) hb (by decide) (by decide)).mp z)) ?_
          by_cases c3 : pm_cat t = 3
          · refine br_t ((yp_c hb (by decide) (by decide)).mpr c3) ?_
            refine yk_need hL hR1 hI1 p2 (fun u T2 v2 e2 hR2 => ?_) (fun T2 v2 e2 hne hR2 => ?_)
            · have e2' : pm_take 3 C T1 = (some u, T2) := e2
              obtain ⟨r1, r2, r3, r4⟩ := pi_tk p1.1 hC p2 e2'
              have hb2 := xs_tok r1.1.1.2.1 r3
              have hI2 := pi_toI hI1 r1
              obtain ⟨F1, F2, F3, F4, F5, F6, F7, F8, F9, F10, F11, F12, A1, A2, A3, A4, A5, A6, A7, A8, A9, A10, A11, A12, A13, A14, A15, A16, A17, A18, A19⟩ := v2
              have kerr : ¬ pm_chr u = 49 + n → post (F1, F2, 6, F4, F5, F6, F7, F8, F9, F10, F11, F12, A1, A2, A3, A4, A5, A6, A7, A8, A9, A10, A11, A12, A13, A14, A15, A16, A17, A18, A19) := fun hv => by
                refine K0 (pm_err 6 T2) w _ ?_ (yk_err (k := 6) (by decide) hR2)
                simp only [pm_pt, e1', if_neg c1, if_neg c2, if_pos c3, e2', if_neg hv]
              refine br_t (yk_f0 hR2 r2) ?_
              by_cases hu : u < 1024
              · have ech : pm_chr u = u % 128 := by unfold pm_chr; rw [if_pos hu]
                have hm := Nat.mod_lt u (show 0 < 128 by decide)
                have e49 : (49 : Int32) + nI n = nI (49 + n) := nI_add 49 _
                have e20 : (2048 : Int32) + nI (n + 1) = nI (2049 + n) := by
                  have : (2048 : Int32) + nI (n + 1) = nI (2048 + (n + 1)) := nI_add 2048 _
                  rw [this, show 2048 + (n + 1) = 2049 + n from by omega]
                refine br_f (nI_ge (b := 1024) hu (by decide)) ?_
                rw [yl_and (by omega), ← ech, e49]
                by_cases hq : pm_chr u = 49 + n
                · refine br_t (by rw [hq]) (nm_r (nI_1 _) (nm_r e20 ?_))
                  refine yp_155 (by omega) hP h0r hR2 hI2 (fun h8 => ?_) (fun h8 w' y1 y2 y3 => ?_)
                  · refine K0 (pm_err 7 T2) w _ ?_ (yk_err (k := 7) (by decide) hR2)
                    simp only [pm_pt, e1', if_neg c1, if_neg c2, if_pos c3, e2', if_pos hq, if_pos h8]
                  · have hrec : pm_pt C (f + 1) n acc T = pm_pt C f (n + 1) (acc ++ [2049 + n]) T2 := by simp only [pm_pt, e1', if_neg c1, if_neg c2, if_pos c3, e2', if_pos hq, if_neg h8]
                    have := ih (n + 1) (acc ++ [2049 + n]) T2 w' N _ _ _ _ _ _ _ _ _ _ _ _ _ _ _ _ _ _ _ _ _ _ _ _ _ _ _ _ _ _ _ (by rw [List.length_append]; simp only [List.length_cons, List.length_nil]; omega) (by omega) (by rw [List.length_append]; simp only [List.length_cons, List.length_nil]; omega) y3 hI2 r2 y1 y2 (by omega) (fun T' w2 v' q1 => K0 T' w2 v' (by rw [hrec]; exact q1)) (fun m pt T' w2 v' q1 => K1 m pt T' w2 v' (by rw [hrec]; exact q1))
                    rw [List.length_append] at this
                    exact this
                · refine br_f (fun z => hq ((nI_eq (by omega) (by omega)).mp z)) (kerr hq)
              · have ech : pm_chr u = 1000 := by unfold pm_chr; rw [if_neg hu]
                exact br_t (nI_le (a := 1024) (by omega) (by omega)) (kerr (by omega))
            · have e2' : pm_take 3 C T1 = (none, T2) := e2
              have k := K0 T2 w v2 (by simp only [pm_pt, e1', if_neg c1, if_neg c2, if_pos c3, e2']) hR2
              obtain ⟨F1, F2, F3, F4, F5, F6, F7, F8, F9, F10, F11, F12, A1, A2, A3, A4, A5, A6, A7, A8, A9, A10, A11, A12, A13, A14, A15, A16, A17, A18, A19⟩ := v2
              exact br_f (yk_f1 hR2 hne) k
          · refine br_f (fun z => c3 ((yp_c (k := 3) hb (by decide) (by decide)).mp z)) ?_
            refine yp_155 (by omega) hP h0r hR1 hI1 (fun h8 => ?_) (fun h8 w' y1 y2 y3 => ?_)
            · refine K0 (pm_err 7 T1) w _ ?_ (yk_err (k := 7) (by decide) hR1)
              simp only [pm_pt, e1', if_neg c1, if_neg c2, if_neg c3, if_pos h8]
            · have hrec : pm_pt C (f + 1) n acc T = pm_pt C f n (acc ++ [t]) T1 := by simp only [pm_pt, e1', if_neg c1, if_neg c2, if_neg c3, if_neg h8]
              have := ih n (acc ++ [t]) T1 w' N _ _ _ _ _ _ _ _ _ _ _ _ _ _ _ _ _ _ _ _ _ _ _ _ _ _ _ _ _ _ _ (by rw [List.length_append]; simp only [List.length_cons, List.length_nil]; omega) (by omega) (by rw [List.length_append]; omega) y3 hI1 p2 y1 y2 (by omega) (fun T' w2 v' q1 => K0 T' w2 v' (by rw [hrec]; exact q1)) (fun m pt T' w2 v' q1 => K1 m pt T' w2 v' (by rw [hrec]; exact q1))
              rw [List.length_append] at this
              exact this
    · have e1' : pm_take 3 C T = (none, T1) := e1
      have k := K0 T1 w v1 (by simp only [pm_pt, e1']) hR1
      obtain ⟨F1, F2, F3, F4, F5, F6, F7, F8, F9, F10, F11, F12, A1, A2, A3, A4, A5, A6, A7, A8, A9, A10, A11, A12, A13, A14, A15, A16, A17, A18, A19⟩ := v1
      exact br_f (yk_f1 hR1 hne) k
end YP
