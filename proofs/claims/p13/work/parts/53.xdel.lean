section XQ
variable {L : List Nat} {lim : Nat} {mm ar ast ae : Nat → Int32} {au al hc : Int32} {u : SX} {f1 f2 f3 f4 f5 f6 f7 f8 f9 f10 f11 f12 f13 f14 : Int32} {a1 a2 a3 a4 a5 a6 a7 a8 a9 a10 a11 a12 a13 a14 a15 : Nat → Int32}
theorem xq_put {post : SX → Prop} {T : pm_T} {Q : pm_Q} {t : Nat} (hR : xr_R L lim (T, Q) mm ar ast ae au al hc u) (h0 : T.1 = 0) (hps : T.2.2.1.length ≤ 256) (K1 : T.2.2.1.length < 256 → ∀ u', xr_R L lim (pm_front t T, Q) mm ar ast ae au al hc u' → post u') (K2 : 256 ≤ T.2.2.1.length → ∀ u', xr_R L lim (pm_err 16 T, Q) mm ar ast ae au al hc u' → post u') : wpX_putInFront post u (nI t) := by
  obtain ⟨st, rest, ps, ns⟩ := T
  obtain ⟨C, M, S, d, c, o, x⟩ := Q
  have hR' := hR
  obtain ⟨ip, pc, inp, out, pend, cat, nch, nl, si, sl, sv, cd, held, rfl, h1, hs, h2, h3, h4, h5, h6, h7⟩ := hR
  have h0' : st = 0 := h0
  subst h0'
  obtain ⟨g1, rfl, g3⟩ := hs.2 rfl
  have hps' : ps.length ≤ 256 := hps
  by_cases h : ps.length < 256
  · refine br_t (nI_lt (b := 256) h (by decide)) ⟨vp_in_nI (by omega) (by decide), fun pend' e => nm_r (nI_1 _) (K1 h _ ?_)⟩
    rw [nI_clamp (by omega)] at e
    subst e
    exact ⟨ip, _, inp, out, _, cat, nch, nl, si, sl, sv, cd, held, rfl, h1, ⟨hs.1, fun _ => ⟨g1, rfl, xr_S_push g3⟩⟩, h2, h3, h4, h5, h6, h7⟩
  · exact br_f (nI_nlt (b := 256) (by omega) (by omega)) (K2 (by show 256 ≤ ps.length; omega) _ (xh_err (k := 16) (by decide) hR'))
def pm_fronts (l : List Nat) (T : pm_T) : pm_T := (T.1, T.2.1, l ++ T.2.2.1, T.2.2.2)
theorem xq_44 {post : Int32 → SX → Prop} {Q : pm_Q} {p : Nat} (hp : 1 ≤ p) (hp2 : p ≤ 2300) : ∀ (R : List Nat) (T : pm_T) (N : Nat) (f1 f2 f3 f4 f5 f6 f7 f8 f9 f10 f11 f12 f13 f14 : Int32) (a1 a2 a3 a4 a5 a6 a7 a8 a9 a10 a11 a12 a13 a14 a15 : Nat → Int32), R.length < N → R.length ≤ 8 → xr_R L lim (T, Q) mm ar ast ae au al hc (f1, f2, f3, f4, f5, f6, f7, f8, f9, f10, f11, f12, f13, f14, a1, a2, a3, a4, a5, a6, a7, a8, a9, a10, a11, a12, a13, a14, a15) → T.1 = 0 → R.length + T.2.2.1.length ≤ 256 → (∀ j, j < R.length → mm (p + j) = nI (R.reverse.getD j 0)) → (∀ u', xr_R L lim (pm_fronts R.reverse T, Q) mm ar ast ae au al hc u' → post 0 u') → wX_takeDelimiter_44 post (nI p) N (nI (p + R.length) - 1) f1 f2 f3 f4 f5 f6 f7 f8 f9 f10 f11 f12 f13 f14 a1 a2 a3 a4 a5 a6 a7 a8 a9 a10 a11 a12 a13 a14 a15 := by
  intro R
  induction R with
  | nil =>
    intro T N f1 f2 f3 f4 f5 f6 f7 f8 f9 f10 f11 f12 f13 f14 a1 a2 a3 a4 a5 a6 a7 a8 a9 a10 a11 a12 a13 a14 a15 hN _ hR h0 hl hD K
    obtain ⟨N, rfl⟩ : ∃ m, N = m + 1 := ⟨N - 1, by omega⟩
    have e : nI (p + ([] : List Nat).length) - 1 = nI (p - 1) := pk_sub (b := 1) hp
    rw [e]
    exact br_t (nI_lt (by omega) (by omega)) (K _ hR)
  | cons a R ih =>
    intro T N f1 f2 f3 f4 f5 f6 f7 f8 f9 f10 f11 f12 f13 f14 a1 a2 a3 a4 a5 a6 a7 a8 a9 a10 a11 a12 a13 a14 a15 hN h8 hR h0 hl hD K
    obtain ⟨N, rfl⟩ : ∃ m, N = m + 1 := ⟨N - 1, by omega⟩
    have ln : (a :: R).length = R.length + 1 := rfl
    rw [ln] at hN h8 hl
    have e : nI (p + (a :: R).length) - 1 = nI (p + R.length) := nI_pred (p + R.length)
    rw [e]
    obtain ⟨z1, z2, z3⟩ := xh_st hR
    subst z2
    have hv : a7 (p + R.length) = nI a := by
      rw [hD R.length (by rw [ln]; omega), List.reverse_cons]
      have : R.length = R.reverse.length := List.length_reverse.symm
      rw [this, xr_getD_append_here]
    refine br_f (nI_nlt (by omega) (by omega)) ⟨vp_in_nI (by omega) (by decide), ?_⟩
    rw [nI_clamp (by omega), hv]
    refine xq_put hR h0 (by omega) (fun hlt u' hR' => ?_) (fun hge => absurd hge (by omega))
    obtain ⟨f1, f2, f3, f4, f5, f6, f7, f8, f9, f10, f11, f12, f13, f14, a1, a2, a3, a4, a5, a6, a7, a8, a9, a10, a11, a12, a13, a14, a15⟩ := u'
    refine nm_r (xg_m1 _) ?_
    refine ih (pm_front a T) N _ _ _ _ _ _ _ _ _ _ _ _ _ _ _ _ _ _ _ _ _ _ _ _ _ _ _ _ _ (by omega) (by omega) hR' h0 (by show R.length + (T.2.2.1.length + 1) ≤ 256; omega) (fun j hj => ?_) (fun u'' h => K u'' ?_)
    · rw [hD j (by rw [ln]; omega), List.reverse_cons, xr_getD_append_left (by rw [List.length_reverse]; exact hj)]
    · have ef : pm_fronts (a :: R).reverse T = pm_fronts R.reverse (pm_front a T) := by
        show (T.1, T.2.1, (a :: R).reverse ++ T.2.2.1, T.2.2.2) = (T.1, T.2.1, R.reverse ++ (a :: T.2.2.1), T.2.2.2)
        rw [List.reverse_cons, List.append_assoc]
        rfl
      rw [ef]
      exact h
theorem xq_dlL {post : Int32 → SX → Prop} {C : Nat → Nat} {dl : List Nat} {p : Nat} {q : (Nat → pm_Mn) × List pm_Sv × Nat × List Nat × List Nat × Nat} (hL : xr_I L) (hC : ∀ a, a < 128 → C a < 8) (hp : 1 ≤ p) (hp2 : p ≤ 2300) (h8 : dl.length ≤ 8) (hdt : ∀ t, t ∈ dl → t < 4096) (hD : ∀ j, j < dl.length → mm (p + j) = nI (dl.getD j 0)) : ∀ (as pre : List Nat) (T : pm_T) (N : Nat) (f1 f2 f3 f4 f5 f6 f7 f8 f9 f10 f11 f12 f13 f14 : Int32) (a1 a2 a3 a4 a5 a6 a7 a8 a9 a10 a11 a12 a13 a14 a15 : Nat → Int32), dl = pre ++ as → as.length < N → xr_R L lim (T, C, q) mm ar ast ae au al hc (f1, f2, f3, f4, f5, f6, f7, f8, f9, f10, f11, f12, f13, f14, a1, a2, a3, a4, a5, a6, a7, a8, a9, a10, a11, a12, a13, a14, a15) → pi_I lim (T, C, q) → T.1 = 0 → pre.length + T.2.2.1.length ≤ 256 →
    (∀ T' u', pm_ah C as T = (none, T') → xr_R L lim (T', C, q) mm ar ast ae au al hc u' → post 0 u') → (∀ T' u', pm_ah C as T = (some true, T') → xr_R L lim (T', C, q) mm ar ast ae au al hc u' → post 1 u') → (∀ T' u', pm_ah C as T = (some false, T') → xr_R L lim (pm_fronts pre T', C, q) mm ar ast ae au al hc u' → post 0 u') →
    wX_takeDelimiter_2 post (nI p) (nI (p + dl.length)) N (nI (p + pre.length)) f1 f2 f3 f4 f5 f6 f7 f8 f9 f10 f11 f12 f13 f14 a1 a2 a3 a4 a5 a6 a7 a8 a9 a10 a11 a12 a13 a14 a15 := by
  intro as
  induction as with
  | nil =>
    intro pre T N f1 f2 f3 f4 f5 f6 f7 f8 f9 f10 f11 f12 f13 f14 a1 a2 a3 a4 a5 a6 a7 a8 a9 a10 a11 a12 a13 a14 a15 hdl hN hR hI h0 hl K0 K1 K2
    obtain ⟨N, rfl⟩ : ∃ m, N = m + 1 := ⟨N - 1, by omega⟩
    have el : dl.length = pre.length := by rw [hdl, List.append_nil]
    exact br_t (by rw [el]; exact nI_le (Nat.le_refl _) (by omega)) (K1 T _ rfl hR)
  | cons a as ih =>
    intro pre T N f1 f2 f3 f4 f5 f6 f7 f8 f9 f10 f11 f12 f13 f14 a1 a2 a3 a4 a5 a6 a7 a8 a9 a10 a11 a12 a13 a14 a15 hdl hN hR hI h0 hl K0 K1 K2
    obtain ⟨N, rfl⟩ : ∃ m, N = m + 1 := ⟨N - 1, by omega⟩
    have hN' : as.length + 1 < N + 1 := hN
    have el : dl.length = pre.length + (as.length + 1) := by rw [hdl, List.length_append]; rfl
    have ha : a < 4096 := hdt a (by rw [hdl]; exact List.mem_append_right _ List.mem_cons_self)
    have hda : dl.getD pre.length 0 = a := by
      rw [hdl, List.getD_eq_getElem?_getD, List.getElem?_append_right (Nat.le_refl _), Nat.sub_self]
      rfl
    refine br_f (nI_ge (by omega) (by omega)) ?_
    refine xt_take (e := 3) hL hR hI h0 (by decide) (fun t T1 u1 e1 hR1 => ?_) (fun T1 u1 e1 hR1 => ?_)
    · have e1' : pm_take 3 C T = (some t, T1) := e1
      obtain ⟨p1, p2, p3, p4⟩ := pi_tk hI.1 hC h0 e1'
      have hb := xs_tok p1.1.1.2.1 p3
      have hI1 := pi_toI hI p1
      have hps : T1.2.2.1.length ≤ 256 := p1.1.2.2.2.1
      have hlen : pre.length + 1 + T1.2.2.1.length ≤ 256 := by
        rcases pi_tps e1' with z | z
        · have : T.2.2.1.length = T1.2.2.1.length + 1 := by rw [z]; rfl
          omega
        · have : T1.2.2.1.length = 0 := by rw [z.2]; rfl
          omega
      obtain ⟨f1, f2, f3, f4, f5, f6, f7, f8, f9, f10, f11, f12, f13, f14, a1, a2, a3, a4, a5, a6, a7, a8, a9, a10, a11, a12, a13, a14, a15⟩ := u1
      obtain ⟨z1, z2, z3⟩ := xh_st hR1
      subst z2
      refine br_f (xh_n1 (by omega)) ⟨vp_in_nI (by omega) (by decide), ?_⟩
      rw [nI_clamp (by omega), hD pre.length (by omega), hda]
      by_cases hta : t = a
      · subst hta
        refine br_t rfl (nm_r (nI_1 _) ?_)
        have e2 : p + pre.length + 1 = p + (pre ++ [t]).length := by rw [List.length_append]; rfl
        rw [e2]
        refine ih (pre ++ [t]) T1 N _ _ _ _ _ _ _ _ _ _ _ _ _ _ _ _ _ _ _ _ _ _ _ _ _ _ _ _ _ (by rw [hdl, List.append_assoc]; rfl) (by omega) hR1 hI1 p2 (by rw [List.length_append]; exact hlen) (fun T' u' z => K0 T' u' ?_) (fun T' u' z => K1 T' u' ?_) (fun T' u' z hz => ?_)
        · simp only [pm_ah, e1', z, if_pos]
        · simp only [pm_ah, e1', z, if_pos]
        · refine K2 (pm_front t T') u' (by simp only [pm_ah, e1', z, if_pos]) ?_
          have ef : pm_fronts pre (pm_front t T') = pm_fronts (pre ++ [t]) T' := by
            show (T'.1, T'.2.1, pre ++ (t :: T'.2.2.1), T'.2.2.2) = (T'.1, T'.2.1, (pre ++ [t]) ++ T'.2.2.1, T'.2.2.2)
            rw [List.append_assoc]
            rfl
          rw [ef]
          exact hz
      · refine br_f (fun z => hta ((nI_eq (by omega) (by omega)).mp z)) ?_
        refine xq_put hR1 p2 hps (fun hlt u2 hR2 => ?_) (fun hge => absurd hge (by omega))
        obtain ⟨f1, f2, f3, f4, f5, f6, f7, f8, f9, f10, f11, f12, f13, f14, a1, a2, a3, a4, a5, a6, a7, a8, a9, a10, a11, a12, a13, a14, a15⟩ := u2
        refine nm_e ⟨pre.length + 1, ?_⟩
        have hrl : pre.reverse.length = pre.length := List.length_reverse
        have := xq_44 (post := post) (Q := (C, q)) hp hp2 pre.reverse (pm_front t T1) (pre.length + 1) _ _ _ _ _ _ _ _ _ _ _ _ _ _ _ _ _ _ _ _ _ _ _ _ _ _ _ _ _ (by omega) (by omega) hR2 p2 (by rw [hrl]; show pre.length + (T1.2.2.1.length + 1) ≤ 256; omega) (fun j hj => by
          rw [hrl] at hj
          rw [hD j (by omega), List.reverse_reverse, hdl, xr_getD_append_left hj]) (fun u' h => K2 (pm_front t T1) u' (by simp only [pm_ah, e1', if_neg hta]) (by rw [List.reverse_reverse] at h; exact h))
        rw [hrl] at this
        exact this
    · have e1' : pm_take 3 C T = (none, T1) := e1
      obtain ⟨f1, f2, f3, f4, f5, f6, f7, f8, f9, f10, f11, f12, f13, f14, a1, a2, a3, a4, a5, a6, a7, a8, a9, a10, a11, a12, a13, a14, a15⟩ := u1
      exact br_t rfl (K0 T1 _ (by simp only [pm_ah, e1']) hR1)
theorem xq_fr0 (T : pm_T) : pm_fronts [] T = T := rfl
theorem xq_dl {post : Int32 → SX → Prop} {C : Nat → Nat} {dl : List Nat} {p : Nat} {T : pm_T} {q : (Nat → pm_Mn) × List pm_Sv × Nat × List Nat × List Nat × Nat} (hL : xr_I L) (hC : ∀ a, a < 128 → C a < 8) (hp : 1 ≤ p) (hp2 : p ≤ 2300) (h8 : dl.length ≤ 8) (hdt : ∀ t, t ∈ dl → t < 4096) (hD : ∀ j, j < dl.length → mm (p + j) = nI (dl.getD j 0)) (hR : xr_R L lim (T, C, q) mm ar ast ae au al hc (f1, f2, f3, f4, f5, f6, f7, f8, f9, f10, f11, f12, f13, f14, a1, a2, a3, a4, a5, a6, a7, a8, a9, a10, a11, a12, a13, a14, a15)) (hI : pi_I lim (T, C, q)) (h0 : T.1 = 0)
    (K0 : ∀ T' u', pm_ah C dl T = (none, T') → xr_R L lim (T', C, q) mm ar ast ae au al hc u' → post 0 u') (K1 : ∀ T' u', pm_ah C dl T = (some true, T') → xr_R L lim (T', C, q) mm ar ast ae au al hc u' → post 1 u') (K2 : ∀ T' u', pm_ah C dl T = (some false, T') → xr_R L lim (T', C, q) mm ar ast ae au al hc u' → post 0 u') : wpX_takeDelimiter post (f1, f2, f3, f4, f5, f6, f7, f8, f9, f10, f11, f12, f13, f14, a1, a2, a3, a4, a5, a6, a7, a8, a9, a10, a11, a12, a13, a14, a15) (nI p) (nI (p + dl.length)) := by
  have hps : T.2.2.1.length ≤ 256 := hI.1.2.2.2.1
  have h := xq_dlL (post := post) hL hC hp hp2 h8 hdt hD dl [] T (dl.length + 1) _ _ _ _ _ _ _ _ _ _ _ _ _ _ _ _ _ _ _ _ _ _ _ _ _ _ _ _ _ rfl (Nat.lt_succ_self _) hR hI h0 (by show 0 + _ ≤ _; omega) K0 K1 (fun T' u' z hz => K2 T' u' z hz)
  exact ⟨_, h⟩
end XQ
