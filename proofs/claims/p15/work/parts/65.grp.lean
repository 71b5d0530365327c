section QE
variable {ns : List (List Nat)} {Q : pm_Q}
theorem qe_open {i : Nat} {l : List Nat} (hV : qb_V ns Q) : qd_W (qd_txt 6 i l) ns Q (fun n1 Q' => n1 = ns ∧ Q'.2.2.2.1 = Q.2.2.2.1 + 1 ∧ Q'.1 = Q.1 ∧ Q'.2.1 = Q.2.1 ∧ Q'.2.2.1 = Q.2.2.1) := by
  have hC := hV.2.2.1.1
  by_cases hi : i = 1
  · have ex : qd_txt 6 i l = [123] := by unfold qd_txt; rw [if_pos rfl, if_pos hi]
    rw [ex]
    have h123 : Q.1 123 = 1 := qa_c hC (by omega) rfl
    have hrun : ∀ f r, pm_run true 100 (f + 1) ((0, [123] ++ r, [], ns), Q) = pm_run true 100 f (pm_out 251 (pm_open ((0, r, [], ns), Q))) := fun f r => by
      have ht : pm_take 1 Q.1 (0, [123] ++ r, [], ns) = (some 251, (0, r, [], ns)) := qa_chr h123 (by decide) (by decide) 0
      rw [qb_run1 rfl ht]
      rfl
    rcases qc_open hV with h | h | ⟨Q', h1, h2, h3, h4, h5, h6⟩
    · exact Or.inl (fun f r _ => by rw [hrun]; exact qd_stop (h r) (by decide))
    · exact Or.inl (fun f r _ => by rw [hrun]; exact qd_stop (h r) (by decide))
    · exact Or.inr ⟨ns, Q', h2, fun f r _ => by rw [hrun, h1], rfl, h3, h4, h5, h6⟩
  · refine Or.inl (fun f r hr => ?_)
    have ex : qd_txt 6 i l = [92, 98, 101, 103, 105, 110, 103, 114, 111, 117, 112] := by unfold qd_txt; rw [if_pos rfl, if_neg hi]
    have h92 : Q.1 92 = 0 := qa_c hC (by omega) rfl
    have hL := qd_let hC
    have ht : pm_take 1 Q.1 (0, qd_txt 6 i l ++ r, [], ns) = (none, (4, r, [], ns)) := by
      rw [ex]
      have := qa_word (e := 1) (ns := ns) (n := 98) (w := [101, 103, 105, 110, 103, 114, 111, 117, 112]) (r := r) h92 (hL 98 (by decide) (by decide)) (fun c hc => by
        simp only [List.mem_cons, List.not_mem_nil, or_false] at hc
        exact hL c (by omega) (by omega)) (qd_e hC hr) 0
      rw [if_pos (by decide)] at this
      exact this
    rw [qb_run0 rfl ht]
    show 2 ≤ 4
    decide
theorem qe_close {i : Nat} {l : List Nat} (hV : qb_V ns Q) : qd_W (qd_txt 7 i l) ns Q (fun n1 Q' => n1 = ns ∧ Q'.2.2.2.1 + 1 = Q.2.2.2.1 ∧ (∀ e j, e ≤ Q.2.2.2.1 → qv_O e j Q' = qv_O e j Q) ∧ ∀ s, s ∈ Q'.2.2.1 → s.2.1 < Q.2.2.2.1) := by
  have hC := hV.2.2.1.1
  by_cases hi : i = 1
  · have ex : qd_txt 7 i l = [125] := by unfold qd_txt; rw [if_neg (by decide), if_pos rfl, if_pos hi]
    rw [ex]
    have h125 : Q.1 125 = 2 := qa_c hC (by omega) rfl
    have hrun : ∀ f r, pm_run true 100 (f + 1) ((0, [125] ++ r, [], ns), Q) = pm_run true 100 f (pm_out 381 (pm_close ((0, r, [], ns), Q))) := fun f r => by
      have ht : pm_take 1 Q.1 (0, [125] ++ r, [], ns) = (some 381, (0, r, [], ns)) := qa_chr h125 (by decide) (by decide) 0
      rw [qb_run1 rfl ht]
      rfl
    rcases qc_close1 hV with h | ⟨Q1, h1, h2, h3, h4, h5⟩
    · refine Or.inl (fun f r _ => ?_)
      rw [hrun]
      refine qd_stop (k := 9) ?_ (by decide)
      have := h r
      generalize pm_close ((0, r, [], ns), Q) = P at this ⊢
      obtain ⟨T, C, M, S, d, c, o, x⟩ := P
      have h9 : T.1 = 9 := this
      simp only [pm_out]
      rw [if_neg (by omega)]
      exact h9
    · rcases qc_out (t := 381) h2 with h | ⟨Q2, g1, g2, g3, g4, g5, g6⟩
      · exact Or.inl (fun f r _ => by rw [hrun, h1]; exact qd_stop (h r) (by decide))
      · refine Or.inr ⟨ns, Q2, g2, fun f r _ => by rw [hrun, h1, g1], rfl, by rw [g6]; exact h3, fun e j he => ?_, fun s hs => h5 s (by rw [← g5]; exact hs)⟩
        rw [← h4 e j he]
        unfold qv_O
        rw [g3, g4, g5]
  · have ex : qd_txt 7 i l = 92 :: 101 :: ([110, 100, 103, 114, 111, 117, 112] ++ []) := by unfold qd_txt; rw [if_neg (by decide), if_pos rfl, if_neg hi]; rfl
    have hL := qd_let hC
    have hrun : ∀ f r, qd_E r → pm_run true 100 (f + 1) ((0, qd_txt 7 i l ++ r, [], ns), Q) = pm_run true 100 f (pm_close ((0, r, [], ns), Q)) := fun f r hr => by
      have e3 : qd_txt 7 i l ++ r = 92 :: 101 :: ([110, 100, 103, 114, 111, 117, 112] ++ r) := by rw [ex]; rfl
      rw [e3, qb_prim (p := 6) hV (hL 101 (by decide) (by decide)) (fun c hc => by
        simp only [List.mem_cons, List.not_mem_nil, or_false] at hc
        exact hL c (by omega) (by omega)) (qd_e hC hr) (by decide) (by decide) (by decide)]
      rfl
    rcases qc_close1 hV with h | ⟨Q1, h1, h2, h3, h4, h5⟩
    · exact Or.inl (fun f r hr => by rw [hrun f r hr]; exact qd_stop (h r) (by decide))
    · exact Or.inr ⟨ns, Q1, h2, fun f r hr => by rw [hrun f r hr, h1], rfl, h3, h4, h5⟩
end QE
section QF
/-- a text that is read to its end -/
def qf_G (L : List Nat) (ns : List (List Nat)) (Q : pm_Q) : Prop := qb_V ns Q ∧ ∃ n, n ≤ L.length ∧ ∀ f r, qd_E r → pm_run true 100 (f + n) ((0, L ++ r, [], ci_ns), qb_Q0) = pm_run true 100 f ((0, r, [], ns), Q)
/-- a text that ends in an error -/
def qf_B (L : List Nat) : Prop := ∃ n, n ≤ L.length ∧ ∀ f r, qd_E r → 2 ≤ (pm_run true 100 (f + n) ((0, L ++ r, [], ci_ns), qb_Q0)).1.1
theorem qf_G0 : qf_G [] ci_ns qb_Q0 := ⟨qb_V0, 0, Nat.le_refl _, fun f r _ => rfl⟩
theorem qf_ext {L x : List Nat} {ns : List (List Nat)} {Q : pm_Q} {K : List (List Nat) → pm_Q → Prop} (hG : qf_G L ns Q) (hx : ∀ r, qd_E (x ++ r)) (h1 : 1 ≤ x.length) (hW : qd_W x ns Q K) : qf_B (L ++ x) ∨ ∃ ns' Q', qf_G (L ++ x) ns' Q' ∧ K ns' Q' := by
  obtain ⟨hV, n, hn, hrun⟩ := hG
  have e : ∀ f r, pm_run true 100 (f + (n + 1)) ((0, L ++ x ++ r, [], ci_ns), qb_Q0) = pm_run true 100 (f + 1) ((0, x ++ r, [], ns), Q) := fun f r => by
    rw [List.append_assoc, show f + (n + 1) = f + 1 + n from by omega]
    exact hrun (f + 1) (x ++ r) (hx r)
  have hl : n + 1 ≤ (L ++ x).length := by rw [List.length_append]; omega
  rcases hW with h | ⟨ns', Q', h2, h3, h4⟩
  · exact Or.inl ⟨n + 1, hl, fun f r hr => by rw [e]; exact h f r hr⟩
  · exact Or.inr ⟨ns', Q', ⟨h2, n + 1, hl, fun f r hr => by rw [e]; exact h3 f r hr⟩, h4⟩
theorem qf_BB {L x : List Nat} (h : qf_B L) (hx : ∀ r, qd_E (x ++ r)) : qf_B (L ++ x) := by
  obtain ⟨n, hn, hrun⟩ := h
  exact ⟨n, by rw [List.length_append]; omega, fun f r _ => by rw [List.append_assoc]; exact hrun f (x ++ r) (hx r)⟩
theorem qf_tx {t i : Nat} {l : List Nat} : (∀ r, qd_E (qd_txt t i l ++ r)) ∧ 1 ≤ (qd_txt t i l).length := by
  unfold qd_txt
  split
  · split
    · exact ⟨fun r => Or.inr ⟨_, _, rfl, Or.inr (Or.inl rfl)⟩, by decide⟩
    · exact ⟨fun r => Or.inr ⟨_, _, rfl, Or.inl rfl⟩, by decide⟩
  · split
    · split
      · exact ⟨fun r => Or.inr ⟨_, _, rfl, Or.inr (Or.inr rfl)⟩, by decide⟩
      · exact ⟨fun r => Or.inr ⟨_, _, rfl, Or.inl rfl⟩, by decide⟩
    · split
      · exact ⟨fun r => Or.inr ⟨_, _, rfl, Or.inl rfl⟩, Nat.succ_le_succ (Nat.zero_le _)⟩
      · exact ⟨fun r => Or.inr ⟨_, _, rfl, Or.inl rfl⟩, Nat.succ_le_succ (Nat.zero_le _)⟩
theorem qf_end {L : List Nat} {ns : List (List Nat)} {Q : pm_Q} {F : Nat} (h : qf_G L ns Q) (hF : L.length < F) : pm_run true 100 F ((0, L, [], ci_ns), qb_Q0) = ((1, [], [], ns), Q) := by
  obtain ⟨hV, n, hn, hrun⟩ := h
  obtain ⟨f, rfl⟩ : ∃ f, F = (f + 1) + n := ⟨F - n - 1, by omega⟩
  have := hrun (f + 1) [] (Or.inl rfl)
  rw [List.append_nil] at this
  rw [this]
  exact qb_run0 rfl rfl
theorem qf_bad {L : List Nat} {F : Nat} (h : qf_B L) (hF : L.length < F) : 2 ≤ (pm_run true 100 F ((0, L, [], ci_ns), qb_Q0)).1.1 := by
  obtain ⟨n, hn, hrun⟩ := h
  obtain ⟨f, rfl⟩ : ∃ f, F = f + n := ⟨F - n, by omega⟩
  have := hrun f [] (Or.inl rfl)
  rw [List.append_nil] at this
  exact this
end QF
