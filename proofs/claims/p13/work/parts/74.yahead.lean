section YW
variable {L : List Nat} {lim : Nat} {w : yr_W} {ar ast aln : Nat → Int32} {rn : Int32} {v : SY} {post : Int32 → SY → Prop}
theorem yw_58 {T : pm_T} {Q : pm_Q} {ds n : Nat} (hL : xr_I L) (hds : ds + n ≤ 100) (hI : pi_I lim (T, Q)) (h0 : T.1 = 0) (K : ∀ v', yr_R L lim (T, Q) w ar ast aln rn v' → post 1 v') : ∀ (R : List Nat) (i N : Nat) (F1 F2 F3 F4 F5 F6 F7 F8 F9 F10 F11 F12 : Int32) (A1 A2 A3 A4 A5 A6 A7 A8 A9 A10 A11 A12 A13 A14 A15 A16 A17 A18 A19 : Nat → Int32), R.length + i = n → R.length < N → (∀ t, t ∈ R → pi_tok T.2.2.2.length t) → R.length + T.2.2.1.length ≤ 256 → yr_R L lim (pm_fronts R T, Q) w ar ast aln rn (F1, F2, F3, F4, F5, F6, F7, F8, F9, F10, F11, F12, A1, A2, A3, A4, A5, A6, A7, A8, A9, A10, A11, A12, A13, A14, A15, A16, A17, A18, A19) → wY_delimAhead_58 post (nI ds) (nI (ds + n)) N (nI i) F1 F2 F3 F4 F5 F6 F7 F8 F9 F10 F11 F12 A1 A2 A3 A4 A5 A6 A7 A8 A9 A10 A11 A12 A13 A14 A15 A16 A17 A18 A19 := by
  have ed : nI (ds + n) - nI ds = nI n := by rw [pk_sub (by omega), Nat.add_sub_cancel_left]
  intro R
  induction R with
  | nil =>
    intro i N F1 F2 F3 F4 F5 F6 F7 F8 F9 F10 F11 F12 A1 A2 A3 A4 A5 A6 A7 A8 A9 A10 A11 A12 A13 A14 A15 A16 A17 A18 A19 hi hN _ _ hR
    obtain ⟨N, rfl⟩ : ∃ m, N = m + 1 := ⟨N - 1, by omega⟩
    have hi' : 0 + i = n := hi
    exact br_t (by rw [ed]; exact nI_le (by omega) (by omega)) (K _ hR)
  | cons a R ih =>
    intro i N F1 F2 F3 F4 F5 F6 F7 F8 F9 F10 F11 F12 A1 A2 A3 A4 A5 A6 A7 A8 A9 A10 A11 A12 A13 A14 A15 A16 A17 A18 A19 hi hN hp hl hR
    obtain ⟨N, rfl⟩ : ∃ m, N = m + 1 := ⟨N - 1, by omega⟩
    have hi' : R.length + 1 + i = n := hi
    have hN' : R.length + 1 < N + 1 := hN
    have hl' : R.length + 1 + T.2.2.1.length ≤ 256 := hl
    refine br_f (by rw [ed]; exact nI_ge (by omega) (by omega)) ?_
    refine yk_take hL hR (yv_I hI hp hl) h0 (fun t T' v' z z0 hv => ?_) (fun T' v' z z0 hv => ?_) (fun T0 v' z z0 hv => ?_)
    · have z1 : (some a, pm_fronts R T) = (some t, T') := z 0
      cases z1
      obtain ⟨F1, F2, F3, F4, F5, F6, F7, F8, F9, F10, F11, F12, A1, A2, A3, A4, A5, A6, A7, A8, A9, A10, A11, A12, A13, A14, A15, A16, A17, A18, A19⟩ := v'
      exact nm_r (nI_1 _) (ih (i + 1) N _ _ _ _ _ _ _ _ _ _ _ _ _ _ _ _ _ _ _ _ _ _ _ _ _ _ _ _ _ _ _ (by omega) (by omega) (fun y hy => hp y (List.mem_cons_of_mem _ hy)) (by omega) hv)
    · have z1 : (some a, pm_fronts R T) = (none, T') := z 0
      cases z1
    · have z1 : (some a, pm_fronts R T) = (none, (0, T0.2)) := z 0
      cases z1
theorem yw_3 {C : Nat → Nat} {q : (Nat → pm_Mn) × List pm_Sv × Nat × List Nat × List Nat × Nat} {dl : List Nat} {n ds : Nat} (hL : xr_I L) (hC : ∀ a, a < 128 → C a < 8) (hn : n < 32) (hds : ds + dl.length ≤ 8) (hdt : ∀ t, t ∈ dl → t < 4096) (hD : ∀ j, j < dl.length → w.2.2.2.2.1 (n * 8 + ds + j) = nI (dl.getD j 0)) : ∀ (as pre : List Nat) (T : pm_T) (N : Nat) (F1 F2 F3 F4 F5 F6 F7 F8 F9 F10 F11 F12 : Int32) (A1 A2 A3 A4 A5 A6 A7 A8 A9 A10 A11 A12 A13 A14 A15 A16 A17 A18 A19 : Nat → Int32), dl = pre ++ as → as.length < N → (∀ t, t ∈ pre → pi_tok T.2.2.2.length t) → pre.length + T.2.2.1.length ≤ 256 → yr_R L lim (pm_fronts pre T, C, q) w ar ast aln rn (F1, F2, F3, F4, F5, F6, F7, F8, F9, F10, F11, F12, A1, A2, A3, A4, A5, A6, A7, A8, A9, A10, A11, A12, A13, A14, A15, A16, A17, A18, A19) → pi_I lim (T, C, q) → T.1 = 0 →
    (∀ T' v', pm_ah C as T = (none, T') → T'.1 ≠ 0 → yr_R L lim (T', C, q) w ar ast aln rn v' → post 0 v') → (∀ T' v', pm_ah C as T = (some true, T') → yr_R L lim (T', C, q) w ar ast aln rn v' → post 1 v') → (∀ T' v', pm_ah C as T = (some false, T') → yr_R L lim (pm_fronts pre T', C, q) w ar ast aln rn v' → post 0 v') →
    wY_delimAhead_3 post (nI n) (nI ds) (nI (ds + dl.length)) N (nI pre.length) F1 F2 F3 F4 F5 F6 F7 F8 F9 F10 F11 F12 A1 A2 A3 A4 A5 A6 A7 A8 A9 A10 A11 A12 A13 A14 A15 A16 A17 A18 A19 := by
  have ed : nI (ds + dl.length) - nI ds = nI dl.length := by rw [pk_sub (by omega), Nat.add_sub_cancel_left]
  intro as
  induction as with
  | nil =>
    intro pre T N F1 F2 F3 F4 F5 F6 F7 F8 F9 F10 F11 F12 A1 A2 A3 A4 A5 A6 A7 A8 A9 A10 A11 A12 A13 A14 A15 A16 A17 A18 A19 hs hN hp hl hR hI h0 K0 K1 K2
    obtain ⟨N, rfl⟩ : ∃ m, N = m + 1 := ⟨N - 1, by omega⟩
    have el : dl = pre := by rw [hs, List.append_nil]
    have ell : dl.length = pre.length := by rw [el]
    refine br_t (by rw [ed, ell]; exact nI_le (Nat.le_refl _) (by omega)) ⟨pre.length + 1, ?_⟩
    have h := yw_58 (post := post) (n := dl.length) (ds := ds) hL (by omega) hI h0 (fun v' hv => K1 T v' rfl hv) pre 0 (pre.length + 1) _ _ _ _ _ _ _ _ _ _ _ _ _ _ _ _ _ _ _ _ _ _ _ _ _ _ _ _ _ _ _ (by omega) (Nat.lt_succ_self _) hp hl hR
    exact h
  | cons a as ih =>
    intro pre T N F1 F2 F3 F4 F5 F6 F7 F8 F9 F10 F11 F12 A1 A2 A3 A4 A5 A6 A7 A8 A9 A10 A11 A12 A13 A14 A15 A16 A17 A18 A19 hs hN hp hl hR hI h0 K0 K1 K2
    obtain ⟨N, rfl⟩ : ∃ m, N = m + 1 := ⟨N - 1, by omega⟩
    have hN' : as.length + 1 < N + 1 := hN
    have el : dl.length = pre.length + (as.length + 1) := by rw [hs, List.length_append]; rfl
    have ha : a < 4096 := hdt a (by rw [hs]; exact List.mem_append_right _ List.mem_cons_self)
    have hda : dl.getD pre.length 0 = a := by rw [hs, xv_at]
    have ei : nI n * 8 + nI ds + nI pre.length = nI (n * 8 + ds + pre.length) := by
      have : nI n * 8 = nI (n * 8) := pk_mul n 8
      rw [this, nI_add, nI_add]
    refine br_f (by rw [ed]; exact nI_ge (by omega) (by omega)) ?_
    refine yv_peek hL (by omega) hR hI hp hl h0 (fun t T1 v1 e1 hR1 => ?_) (fun T1 v1 e1 hne hR1 => ?_)
    · have e1' : pm_take 3 C T = (some t, T1) := e1
      obtain ⟨p1, p2, p3, p4⟩ := pi_tk hI.1 hC h0 e1'
      have hb := xs_tok p1.1.1.2.1 p3
      have hI1 := pi_toI hI p1
      have hlen : pre.length + 1 + T1.2.2.1.length ≤ 256 := by
        rcases pi_tps e1' with z | z
        · have : T.2.2.1.length = T1.2.2.1.length + 1 := by rw [z]; rfl
          omega
        · have : T1.2.2.1.length = 0 := by rw [z.2]; rfl
          omega
      have k2 : ¬ t = a → post 0 v1 := fun hta => K2 (pm_front t T1) v1 (by simp only [pm_ah, e1', if_neg hta]) (by
        have ef : pm_fronts pre (pm_front t T1) = pm_fronts (pre ++ [t]) T1 := by
          show (T1.1, T1.2.1, pre ++ (t :: T1.2.2.1), T1.2.2.2) = (T1.1, T1.2.1, (pre ++ [t]) ++ T1.2.2.1, T1.2.2.2)
          rw [List.append_assoc]
          rfl
        rw [ef]
        exact hR1)
      obtain ⟨F1, F2, F3, F4, F5, F6, F7, F8, F9, F10, F11, F12, A1, A2, A3, A4, A5, A6, A7, A8, A9, A10, A11, A12, A13, A14, A15, A16, A17, A18, A19⟩ := v1
      obtain ⟨z1, z2, z3, z4, z5, z6, z7⟩ := yl_tab hR1
      refine br_t (yk_f0 hR1 p2) ⟨by rw [ei]; exact vp_in_nI (by omega) (by decide), ?_⟩
      have hv : A11 (nI n * 8 + nI ds + nI pre.length).toNatClampNeg = nI a := by
        rw [ei, nI_clamp (by omega), z5, hD pre.length (by omega), hda]
      rw [hv]
      by_cases hta : t = a
      · subst hta
        refine br_t rfl (nm_r (nI_1 _) ?_)
        have e2 : pre.length + 1 = (pre ++ [t]).length := by rw [List.length_append]; rfl
        rw [e2]
        refine ih (pre ++ [t]) T1 N _ _ _ _ _ _ _ _ _ _ _ _ _ _ _ _ _ _ _ _ _ _ _ _ _ _ _ _ _ _ _ (by rw [hs, List.append_assoc]; rfl) (by omega) (pi_all hp (pi_to_k p1) p3) (by rw [List.length_append]; exact hlen) hR1 hI1 p2 (fun T' v' z => K0 T' v' ?_) (fun T' v' z => K1 T' v' ?_) (fun T' v' z hz => ?_)
        · simp only [pm_ah, e1', z, if_pos]
        · simp only [pm_ah, e1', z, if_pos]
        · refine K2 (pm_front t T') v' (by simp only [pm_ah, e1', z, if_pos]) ?_
          have ef : pm_fronts pre (pm_front t T') = pm_fronts (pre ++ [t]) T' := by
            show (T'.1, T'.2.1, pre ++ (t :: T'.2.2.1), T'.2.2.2) = (T'.1, T'.2.1, (pre ++ [t]) ++ T'.2.2.1, T'.2.2.2)
            rw [List.append_assoc]
            rfl
          rw [ef]
          exact hz
      · exact br_f (fun z => hta ((nI_eq (by omega) (by omega)).mp z)) (k2 hta)
    · have e1' : pm_take 3 C T = (none, T1) := e1
      have k := K0 T1 v1 (by simp only [pm_ah, e1']) hne hR1
      obtain ⟨F1, F2, F3, F4, F5, F6, F7, F8, F9, F10, F11, F12, A1, A2, A3, A4, A5, A6, A7, A8, A9, A10, A11, A12, A13, A14, A15, A16, A17, A18, A19⟩ := v1
      exact br_f (yk_f1 hR1 hne) k
theorem yw_ahead {C : Nat → Nat} {q : (Nat → pm_Mn) × List pm_Sv × Nat × List Nat × List Nat × Nat} {dl : List Nat} {n ds : Nat} {T : pm_T} {F1 F2 F3 F4 F5 F6 F7 F8 F9 F10 F11 F12 : Int32} {A1 A2 A3 A4 A5 A6 A7 A8 A9 A10 A11 A12 A13 A14 A15 A16 A17 A18 A19 : Nat → Int32} (hL : xr_I L) (hC : ∀ a, a < 128 → C a < 8) (hn : n < 32) (hds : ds + dl.length ≤ 8) (hdt : ∀ t, t ∈ dl → t < 4096) (hD : ∀ j, j < dl.length → w.2.2.2.2.1 (n * 8 + ds + j) = nI (dl.getD j 0)) (hR : yr_R L lim (T, C, q) w ar ast aln rn (F1, F2, F3, F4, F5, F6, F7, F8, F9, F10, F11, F12, A1, A2, A3, A4, A5, A6, A7, A8, A9, A10, A11, A12, A13, A14, A15, A16, A17, A18, A19)) (hI : pi_I lim (T, C, q)) (h0 : T.1 = 0)
    (K0 : ∀ T' v', pm_ah C dl T = (none, T') → T'.1 ≠ 0 → yr_R L lim (T', C, q) w ar ast aln rn v' → post 0 v') (K1 : ∀ T' v', pm_ah C dl T = (some true, T') → yr_R L lim (T', C, q) w ar ast aln rn v' → post 1 v') (K2 : ∀ T' v', pm_ah C dl T = (some false, T') → yr_R L lim (T', C, q) w ar ast aln rn v' → post 0 v') : wpY_delimAhead post (F1, F2, F3, F4, F5, F6, F7, F8, F9, F10, F11, F12, A1, A2, A3, A4, A5, A6, A7, A8, A9, A10, A11, A12, A13, A14, A15, A16, A17, A18, A19) (nI n) (nI ds) (nI (ds + dl.length)) := by
  have hps : T.2.2.1.length ≤ 256 := hI.1.2.2.2.1
  have h := yw_3 (post := post) hL hC hn hds hdt hD dl [] T (dl.length + 1) _ _ _ _ _ _ _ _ _ _ _ _ _ _ _ _ _ _ _ _ _ _ _ _ _ _ _ _ _ _ _ rfl (Nat.lt_succ_self _) (fun t ht => (nomatch ht)) (by show 0 + _ ≤ _; omega) hR hI h0 K0 K1 (fun T' v' z hz => K2 T' v' z hz)
  exact ⟨_, h⟩
end YW
