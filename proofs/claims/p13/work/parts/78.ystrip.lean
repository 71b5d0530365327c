section YZ3
variable {post : SY → Prop} {F1 F2 F3 F4 F5 F6 F7 F8 F9 F10 F11 F12 : Int32} {A1 A2 A3 A4 A5 A6 A7 A8 A9 A10 A11 A12 A13 A14 A15 A16 A17 A18 A19 : Nat → Int32}
theorem yz_434 {l : List Nat} {s k : Nat} (hk : k < 10) (hs : s ≤ 256) (h2 : 2 ≤ l.length) (hl : l.length ≤ 520) (hA : xe_C A16 s l)
    (K : ∀ ar' aln' : Nat → Int32, xe_C ar' s l.tail.dropLast → (∀ j, j < s → ar' j = A16 j) → aln' = upd A18 k (nI l.tail.dropLast.length) → post (F1, F2, F3, F4, F5, F6, F7, F8, F9, F10, F11, F12, A1, A2, A3, A4, A5, A6, A7, A8, A9, A10, A11, A12, A13, A14, A15, ar', A17, aln', A19)) : ∀ (n i : Nat) (ar' : Nat → Int32), l.length - 2 < n + i → i ≤ l.length - 2 → (∀ j, j < i → ar' (s + j) = nI (l.getD (j + 1) 0)) → (∀ j, s + i ≤ j → ar' j = A16 j) → (∀ j, j < s → ar' j = A16 j) → wY_scanArg_434 post (nI k) (nI s) (nI l.length) F1 F2 F3 F4 F5 F6 F7 F8 F9 F10 F11 F12 n (nI i) A1 A2 A3 A4 A5 A6 A7 A8 A9 A10 A11 A12 A13 A14 A15 ar' A17 A18 A19 := by
  have e2 : nI l.length - 2 = nI (l.length - 2) := pk_sub (b := 2) h2
  have e3 : nI l.length + (-2) = nI (l.length - 2) := by rw [← e2, Int32.sub_eq_add_neg]
  have hlen : l.tail.dropLast.length = l.length - 2 := by rw [List.length_dropLast, List.length_tail]; omega
  intro n
  induction n with
  | zero => intro i ar' g1 g2; omega
  | succ n ih =>
    intro i ar' g1 g2 g3 g4 g5
    by_cases hi : i = l.length - 2
    · refine br_t (by rw [e2, hi]; exact nI_le (Nat.le_refl _) (by omega)) (nm_r e3 ⟨vp_in_nI hk (by decide), fun aln' y => K ar' aln' (fun j hj => ?_) g5 ?_⟩)
      · rw [xo_tail h2 hj]
        exact g3 j (by omega)
      · rw [y, nI_clamp (by omega), hlen]
    · have e : nI s + nI i = nI (s + i) := nI_add _ _
      refine br_f (by rw [e2]; exact nI_ge (by omega) (by omega)) ?_
      rw [e, nI_1, nI_clamp (by omega), nI_clamp (by omega)]
      refine ⟨vp_in_nI (by omega) (by decide), vp_in_nI (by omega) (by decide), fun ar2 y => nm_r (nI_1 _) ?_⟩
      rw [g4 (s + i + 1) (by omega), show s + i + 1 = s + (i + 1) from by omega, hA (i + 1) (by omega)] at y
      subst y
      refine ih (i + 1) _ (by omega) (by omega) (fun j hj => ?_) (fun j hj => ?_) (fun j hj => ?_)
      · by_cases ej : j = i
        · rw [ej, pk_us]
        · rw [pk_un (by omega)]
          exact g3 j (by omega)
      · rw [pk_un (by omega)]
        exact g4 j (by omega)
      · rw [pk_un (by omega)]
        exact g5 j hj
/-- the end of a delimited argument: outer braces go where it is one group -/
theorem yz_308 {l : List Nat} {s k : Nat} {og : Bool} (hk : k < 10) (hs : s ≤ 256) (hl : l.length ≤ 520) (hA : xe_C A16 s l) (hb : ∀ j, l.getD j 0 < 2048) (hok : ∀ i, i < l.length → pm_cat (l.getD i 0) = 2 → 0 < yz_dep (l.take i)) (hdl : ∀ i, yz_dep (l.take i) ≤ 520) (hd0 : yz_dep l = 0) (ho : og = true ↔ yz_one l)
    (K : ∀ ar' aln' : Nat → Int32, xe_C ar' s (if og = true then l.tail.dropLast else l) → (∀ j, j < s → ar' j = A16 j) → aln' = upd A18 k (nI (if og = true then l.tail.dropLast else l).length) → post (F1, F2, F3, F4, F5, F6, F7, F8, F9, F10, F11, F12, A1, A2, A3, A4, A5, A6, A7, A8, A9, A10, A11, A12, A13, A14, A15, ar', A17, aln', A19)) : wY_scanArg_308 post (nI k) (nI s) (nI l.length) F1 F2 F3 F4 F5 F6 F7 F8 F9 F10 F11 F12 A1 A2 A3 A4 A5 A6 A7 A8 A9 A10 A11 A12 A13 A14 A15 A16 A17 A18 A19 := by
  have vk : vp_in (nI k) 10 := vp_in_nI hk (by decide)
  have ck : (nI k).toNatClampNeg = k := nI_clamp (by omega)
  have keep : ¬ yz_one l → (vp_in (nI k) 10 ∧ ∀ a' : Nat → Int32, a' = upd A18 (nI k).toNatClampNeg (nI l.length) → post (F1, F2, F3, F4, F5, F6, F7, F8, F9, F10, F11, F12, A1, A2, A3, A4, A5, A6, A7, A8, A9, A10, A11, A12, A13, A14, A15, A16, A17, a', A19)) := fun hn => by
    have hog : ¬ og = true := fun z => hn (ho.mp z)
    rw [if_neg hog] at K
    exact ⟨vk, fun a' y => K A16 a' hA (fun j _ => rfl) (by rw [y, ck])⟩
  by_cases h2 : l.length < 2
  · refine br_t (nI_lt (b := 2) h2 (by decide)) (keep fun hone => ?_)
    obtain ⟨⟨a, r, e, hc⟩, _⟩ := hone
    subst e
    have hr : r = [] := by
      cases r with
      | nil => rfl
      | cons y ys => exact absurd h2 (by show ¬ ys.length + 1 + 1 < 2; omega)
    subst hr
    have : yz_dep [a] = 1 := by show pm_nest a 0 = 1; unfold pm_nest; rw [if_pos hc]
    omega
  · have hb0 := hb 0
    have hbl := hb (l.length - 1)
    have v0 : A16 (nI s).toNatClampNeg = nI (l.getD 0 0) := by rw [nI_clamp (by omega)]; exact hA 0 (by omega)
    have el : nI s + nI l.length - 1 = nI (s + (l.length - 1)) := by
      have : nI s + nI l.length = nI (s + l.length) := nI_add _ _
      rw [this]
      have h3 : nI (s + l.length) - 1 = nI (s + l.length - 1) := pk_sub (b := 1) (by omega)
      rw [h3, show s + l.length - 1 = s + (l.length - 1) from by omega]
    have vl : A16 (nI s + nI l.length - 1).toNatClampNeg = nI (l.getD (l.length - 1) 0) := by rw [el, nI_clamp (by omega)]; exact hA _ (by omega)
    have hc1 := yp_c (k := 1) hb0 (by decide) (by decide)
    have hc2 := yp_c (k := 2) hbl (by decide) (by decide)
    refine br_f (nI_nlt (b := 2) (by omega) (by omega)) ⟨vp_in_nI (by omega) (by decide), ?_⟩
    rw [v0, yp_shr (by omega)]
    by_cases f1 : pm_cat (l.getD 0 0) = 1
    · refine br_t (hc1.mpr f1) ⟨by rw [el]; exact vp_in_nI (by omega) (by decide), ?_⟩
      rw [vl, yp_shr (by omega)]
      by_cases f2 : pm_cat (l.getD (l.length - 1) 0) = 2
      · refine br_t (hc2.mpr f2) ⟨l.length + 1, ?_⟩
        have h := yz_356 (post := post) (x4 := nI k) hs hl hA hb hok hdl (fun ⟨j, j1, j2, j3⟩ => keep (fun hone => by have := hone.2 j j1 j2; omega)) (fun hall => ?_) (l.length + 1) 0 1 (by omega) (by omega) ⟨fun z => absurd z ci_10, fun ⟨j, j1, j2, _⟩ => by omega⟩
        · exact h
        · have hone : yz_one l := by
            refine ⟨?_, hall⟩
            cases l with
            | nil => exact absurd (show (0 : Nat) < 2 by decide) h2
            | cons a r => exact ⟨a, r, rfl, f1⟩
          rw [if_pos (ho.mpr hone)] at K
          exact ⟨l.length, yz_434 hk hs (by omega) hl hA K l.length 0 A16 (by omega) (by omega) (fun j hj => absurd hj (Nat.not_lt_zero _)) (fun j _ => rfl) (fun j _ => rfl)⟩
      · refine br_f (fun z => f2 (hc2.mp z)) (keep fun hone => f2 ?_)
        -- the last token closes the group
        have hp := hone.2 (l.length - 1) (by omega) (by omega)
        have ht := yz_take (l := l) (i := l.length - 1) (by omega)
        rw [show l.length - 1 + 1 = l.length from by omega, List.take_length] at ht
        have hd : yz_dep l = pm_nest (l.getD (l.length - 1) 0) (yz_dep (l.take (l.length - 1))) := by
          have h4 := yz_snoc (l.take (l.length - 1)) (l.getD (l.length - 1) 0)
          rw [← ht] at h4
          exact h4
        rw [hd0] at hd
        unfold pm_nest at hd
        rw [if_neg f2] at hd
        split at hd <;> omega
    · refine br_f (fun z => f1 (hc1.mp z)) (keep fun hone => ?_)
      obtain ⟨⟨a, r, e, hc⟩, _⟩ := hone
      subst e
      exact f1 hc
end YZ3
