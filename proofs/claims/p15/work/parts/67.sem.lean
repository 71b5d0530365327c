section QM
/-- how far the texts go -/
def qm_P (L : List Nat) : Prop := qf_B L ∨ ∃ ns Q, qf_G L ns Q
def qm_S (inner : Nat) (La Lb : List Nat) (gN : qg_N) (gK : qg_K) : Prop :=
  qf_B La ∨ ((∃ nA QA, qf_G La nA QA) ∧ qf_B Lb) ∨ ∃ nA QA ns Q, qf_G La nA QA ∧ qf_G Lb ns Q ∧ qg_I QA.2.2.2.1 nA QA gN gK ns Q ∧ Q.2.2.2.1 = QA.2.2.2.1 + inner
def qm_Z (La Lb : List Nat) (gN : qg_N) (gK : qg_K) : Prop :=
  qf_B La ∨ ((∃ nA QA, qf_G La nA QA) ∧ qf_B Lb) ∨ ∃ nA QA ns Q, qf_G La nA QA ∧ qf_G Lb ns Q ∧ nA <+: ns ∧ (∀ j, j < 32 → Q.2.1 j = qg_m gN QA.2.1 ns j) ∧ ∀ c, c < 128 → Q.1 c = qg_k gK QA.1 c
theorem qm_pre {L l : List Nat} {t i : Nat} (h : qm_P L) (ht : t < 6) (hok : qd_ok t i l) : qm_P (L ++ qd_txt t i l) := by
  rcases h with h | ⟨ns, Q, h⟩
  · exact Or.inl (qf_BB h qf_tx.1)
  · rcases qf_ext h qf_tx.1 qf_tx.2 (qd_six h.1 ht hok) with z | ⟨ns', Q', z, _⟩
    · exact Or.inl z
    · exact Or.inr ⟨ns', Q', z⟩
theorem qm_pre6 {L l : List Nat} {i : Nat} (h : qm_P L) : qm_P (L ++ qd_txt 6 i l) := by
  rcases h with h | ⟨ns, Q, h⟩
  · exact Or.inl (qf_BB h qf_tx.1)
  · rcases qf_ext h qf_tx.1 qf_tx.2 (qe_open (i := i) (l := l) h.1) with z | ⟨ns', Q', z, _⟩
    · exact Or.inl z
    · exact Or.inr ⟨ns', Q', z⟩
theorem qm_first {L l : List Nat} {i : Nat} (h : qm_P L) : qm_S 0 (L ++ qd_txt 6 i l) (L ++ qd_txt 6 i l) (fun _ => none) (fun _ => none) := by
  rcases h with h | ⟨ns, Q, h⟩
  · exact Or.inl (qf_BB h qf_tx.1)
  · rcases qf_ext h qf_tx.1 qf_tx.2 (qe_open (i := i) (l := l) h.1) with z | ⟨ns', Q', z, h1, h2, h3, h4, h5⟩
    · exact Or.inl z
    · refine Or.inr (Or.inr ⟨ns', Q', ns', Q', z, z, qg_I0 (by omega) (fun s hs => ?_), rfl⟩)
      rw [h5] at hs
      have : s.2.1 ≤ Q.2.2.2.1 := by
        have hI := h.1.1
        obtain ⟨C, M, S, d, c, o, x⟩ := Q
        exact (hI.2.2.2.2.1 s hs).2.2.2.2.2
      omega
theorem qm_body {La Lb l : List Nat} {t i inner : Nat} {gN : qg_N} {gK : qg_K} (h : qm_S inner La Lb gN gK) (ht : t < 6) (hok : qd_ok t i l) : qm_S inner La (Lb ++ qd_txt t i l) (qg_N' t i l gN) (qg_K' t i l gK) := by
  rcases h with h | ⟨hA, h⟩ | ⟨nA, QA, ns, Q, hA, hB, hI, hd⟩
  · exact Or.inl h
  · exact Or.inr (Or.inl ⟨hA, qf_BB h qf_tx.1⟩)
  · rcases qf_ext hB qf_tx.1 qf_tx.2 (qd_six hB.1 ht hok) with z | ⟨ns', Q', z, h1, h2, h3, h4⟩
    · exact Or.inr (Or.inl ⟨⟨nA, QA, hA⟩, z⟩)
    · subst h1
      exact Or.inr (Or.inr ⟨nA, QA, _, Q', hA, z, qg_six ht hok.1 hB.1 z.1 hI (by omega) h3 h4, by omega⟩)
theorem qm_open {La Lb l : List Nat} {i inner : Nat} {gN : qg_N} {gK : qg_K} (h : qm_S inner La Lb gN gK) : qm_S (inner + 1) La (Lb ++ qd_txt 6 i l) gN gK := by
  rcases h with h | ⟨hA, h⟩ | ⟨nA, QA, ns, Q, hA, hB, hI, hd⟩
  · exact Or.inl h
  · exact Or.inr (Or.inl ⟨hA, qf_BB h qf_tx.1⟩)
  · rcases qf_ext hB qf_tx.1 qf_tx.2 (qe_open (i := i) (l := l) hB.1) with z | ⟨ns', Q', z, h1, h2, h3, h4, h5⟩
    · exact Or.inr (Or.inl ⟨⟨nA, QA, hA⟩, z⟩)
    · subst h1
      refine Or.inr (Or.inr ⟨nA, QA, _, Q', hA, z, qg_same hI (fun j => ?_), by omega⟩)
      unfold qv_O
      rw [h3, h4, h5]
theorem qm_close {La Lb l : List Nat} {i inner : Nat} {gN : qg_N} {gK : qg_K} (h : qm_S (inner + 1) La Lb gN gK) : qm_S inner La (Lb ++ qd_txt 7 i l) gN gK := by
  rcases h with h | ⟨hA, h⟩ | ⟨nA, QA, ns, Q, hA, hB, hI, hd⟩
  · exact Or.inl h
  · exact Or.inr (Or.inl ⟨hA, qf_BB h qf_tx.1⟩)
  · rcases qf_ext hB qf_tx.1 qf_tx.2 (qe_close (i := i) (l := l) hB.1) with z | ⟨ns', Q', z, h1, h2, h3, h4⟩
    · exact Or.inr (Or.inl ⟨⟨nA, QA, hA⟩, z⟩)
    · subst h1
      exact Or.inr (Or.inr ⟨nA, QA, _, Q', hA, z, qg_same hI (fun j => h3 _ j (by omega)), by omega⟩)
theorem qm_last {La Lb l : List Nat} {i : Nat} {gN : qg_N} {gK : qg_K} (h : qm_S 0 La Lb gN gK) : qm_Z La (Lb ++ qd_txt 7 i l) gN gK := by
  rcases h with h | ⟨hA, h⟩ | ⟨nA, QA, ns, Q, hA, hB, hI, hd⟩
  · exact Or.inl h
  · exact Or.inr (Or.inl ⟨hA, qf_BB h qf_tx.1⟩)
  · rcases qf_ext hB qf_tx.1 qf_tx.2 (qe_close (i := i) (l := l) hB.1) with z | ⟨ns', Q', z, h1, h2, h3, h4⟩
    · exact Or.inr (Or.inl ⟨⟨nA, QA, hA⟩, z⟩)
    · subst h1
      obtain ⟨k1, k2⟩ := qg_fin (qg_same hI (fun j => h3 _ j (by omega))) (fun s hs => by have := h4 s hs; omega)
      exact Or.inr (Or.inr ⟨nA, QA, _, Q', hA, z, hI.2.1, k1, k2⟩)
end QM
