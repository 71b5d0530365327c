section QG
/-- what the body has given for good: names p to s, the four chars -/
abbrev qg_N : Type := Nat → Option pm_Mn
abbrev qg_K : Type := Nat → Option Nat
/-- which of the four names a list of chars is: 4 if none -/
def qg_ix (w : List Nat) : Nat := if w = [112] then 0 else if w = [113] then 1 else if w = [114] then 2 else if w = [115] then 3 else 4
def qg_cx (c : Nat) : Nat := if c = 33 then 0 else if c = 34 then 1 else if c = 36 then 2 else if c = 37 then 3 else 4
def qg_m (gN : qg_N) (MA : Nat → pm_Mn) (ns : List (List Nat)) (j : Nat) : pm_Mn := if qg_ix (ns.getD j []) < 4 then (gN (qg_ix (ns.getD j []))).getD (MA j) else MA j
def qg_k (gK : qg_K) (CA : Nat → Nat) (c : Nat) : Nat := if qg_cx c < 4 then (gK (qg_cx c)).getD (CA c) else CA c
/-- between the commands of the body: the group that the first part opened has level e -/
def qg_I (e : Nat) (nA : List (List Nat)) (QA : pm_Q) (gN : qg_N) (gK : qg_K) (ns : List (List Nat)) (Q : pm_Q) : Prop :=
  1 ≤ e ∧ nA <+: ns ∧ (∀ i m, i < 4 → gN i = some m → [112 + i] ∈ ns) ∧ (∀ j, j < 32 → qv_O e j Q = (qg_m gN QA.2.1 ns j, 0)) ∧ ∀ c, c < 128 → qv_O e (32 + c) Q = (pm_m0, qg_k gK QA.1 c)
theorem qg_ix_of {i : Nat} (h : i < 4) : qg_ix [112 + i] = i := by
  match i, h with
  | 0, _ => rfl
  | 1, _ => rfl
  | 2, _ => rfl
  | 3, _ => rfl
  | n + 4, h => omega
theorem qg_ix_eq {w : List Nat} (h : qg_ix w < 4) : w = [112 + qg_ix w] := by
  by_cases h1 : w = [112]
  · rw [h1]; rfl
  · by_cases h2 : w = [113]
    · rw [h2]; rfl
    · by_cases h3 : w = [114]
      · rw [h3]; rfl
      · by_cases h4 : w = [115]
        · rw [h4]; rfl
        · have : qg_ix w = 4 := by unfold qg_ix; rw [if_neg h1, if_neg h2, if_neg h3, if_neg h4]
          omega
theorem qg_cx_of {i : Nat} (h : i < 4) : qg_cx (qa_tgt i) = i := by
  match i, h with
  | 0, _ => rfl
  | 1, _ => rfl
  | 2, _ => rfl
  | 3, _ => rfl
  | n + 4, h => omega
theorem qg_cx_eq {c : Nat} (h : qg_cx c < 4) : c = qa_tgt (qg_cx c) := by
  by_cases h1 : c = 33
  · rw [h1]; rfl
  · by_cases h2 : c = 34
    · rw [h2]; rfl
    · by_cases h3 : c = 36
      · rw [h3]; rfl
      · by_cases h4 : c = 37
        · rw [h4]; rfl
        · have : qg_cx c = 4 := by unfold qg_cx; rw [if_neg h1, if_neg h2, if_neg h3, if_neg h4]
          omega
/-- at the beginning of the body -/
theorem qg_I0 {e : Nat} {nA : List (List Nat)} {QA : pm_Q} (he : 1 ≤ e) (hl : ∀ s, s ∈ QA.2.2.1 → s.2.1 < e) : qg_I e nA QA (fun _ => none) (fun _ => none) nA QA := by
  refine ⟨he, List.prefix_refl _, fun i m _ h => (nomatch h), fun j hj => ?_, fun c hc => ?_⟩
  · unfold qv_O
    rw [qv_low hl]
    unfold qv_c qv_v qg_m
    rw [if_pos hj]
    split <;> rfl
  · unfold qv_O
    rw [qv_low hl]
    unfold qv_c qv_v qg_k
    rw [if_neg (by omega), Nat.add_sub_cancel_left]
    split <;> rfl
/-- names never move -/
theorem qg_pre {ns ns' : List (List Nat)} (h : ns <+: ns') {j : Nat} (hj : j < ns.length) : ns'.getD j [] = ns.getD j [] := by
  obtain ⟨t, rfl⟩ := h
  exact xr_getD_append_left hj
theorem qg_idx {l : List (List Nat)} {w : List Nat} {j : Nat} (hn : l.Nodup) (hj : j < l.length) (hw : l.getD j [] = w) : l.idxOf w = j := by
  have e : l[j] = w := by
    rw [List.getD_eq_getElem?_getD, List.getElem?_eq_getElem hj] at hw
    exact hw
  have hm : w ∈ l := by rw [← e]; exact List.getElem_mem hj
  have hl := List.idxOf_lt_length_iff.mpr hm
  have e2 : l[l.idxOf w] = w := List.getElem_idxOf hl
  rcases Nat.lt_trichotomy (l.idxOf w) j with h | h | h
  · exact absurd (e2.trans e.symm) (List.pairwise_iff_getElem.mp hn _ _ hl hj h)
  · exact h
  · exact absurd (e.trans e2.symm) (List.pairwise_iff_getElem.mp hn _ _ hj hl h)
theorem qg_out {l : List (List Nat)} {j : Nat} (h : l.length ≤ j) : l.getD j [] = [] := by
  rw [List.getD_eq_getElem?_getD, List.getElem?_eq_none h]
  rfl
/-- what a command of the body adds to what is given for good -/
def qg_N' (t i : Nat) (l : List Nat) (gN : qg_N) : qg_N := if t = 1 ∨ t = 3 then (fun k => if k = i then some (qd_mn t l) else gN k) else gN
def qg_K' (t i : Nat) (l : List Nat) (gK : qg_K) : qg_K := if t = 5 then (fun k => if k = i then some (qd_kk t l) else gK k) else gK
theorem qg_six {e t i : Nat} {l : List Nat} {nA ns : List (List Nat)} {QA Q Q' : pm_Q} {gN : qg_N} {gK : qg_K} (ht : t < 6) (hi : i < 4) (hV : qb_V ns Q) (hV' : qb_V (qa_add ns (qd_nm t i)) Q') (h : qg_I e nA QA gN gK ns Q) (he : e ≤ Q.2.2.2.1) (hf : ns.idxOf (qd_nm t i) < ns.length ∨ ns.length < 32)
    (hO : ∀ e j, 1 ≤ e → e ≤ Q.2.2.2.1 → qv_O e j Q' = if (t % 2 == 1) = true ∧ qd_j t i (qa_add ns (qd_nm t i)) = j then qv_v (qd_j t i (qa_add ns (qd_nm t i))) (qd_mn t l) (qd_kk t l) else qv_O e j Q) : qg_I e nA QA (qg_N' t i l gN) (qg_K' t i l gK) (qa_add ns (qd_nm t i)) Q' := by
  obtain ⟨h1, h2, h3, h4, h5⟩ := h
  obtain ⟨k1, k2, k3, k4⟩ := qa_look (r := []) hf
  have hn' := hV'.2.2.2.2
  have h32 : (qa_add ns (qd_nm t i)).length ≤ 32 := hV'.1.1.1.2.1
  have hnm : t < 4 → qd_nm t i = [112 + i] := fun z => by unfold qd_nm; rw [if_pos z]
  have hJ : t < 4 → qd_j t i (qa_add ns (qd_nm t i)) = (qa_add ns (qd_nm t i)).idxOf (qd_nm t i) := fun z => by unfold qd_j; rw [if_pos z, hnm z]
  have hJ2 : ¬ t < 4 → qd_j t i (qa_add ns (qd_nm t i)) = 32 + qa_tgt i := fun z => by unfold qd_j; rw [if_neg z]
  have hmem : qd_nm t i ∈ qa_add ns (qd_nm t i) := List.idxOf_lt_length_iff.mp k2
  have hodd : (t % 2 == 1) = true ↔ t % 2 = 1 := by simp
  refine ⟨h1, h2.trans k4, fun a m ha hm => ?_, fun j hj => ?_, fun c hc => ?_⟩
  · unfold qg_N' at hm
    split at hm
    · next ht2 =>
      dsimp only at hm
      split at hm
      · next e1 =>
        rw [e1, ← hnm (by omega)]
        exact hmem
      · exact k4.subset (h3 a m ha hm)
    · exact k4.subset (h3 a m ha hm)
  · rw [hO e j h1 he]
    by_cases hc : (t % 2 == 1) = true ∧ qd_j t i (qa_add ns (qd_nm t i)) = j
    · rw [if_pos hc]
      have ht1 := hodd.mp hc.1
      have ht4 : t < 4 := by
        rcases Nat.lt_or_ge t 4 with z | z
        · exact z
        · have := hJ2 (by omega)
          omega
      have eJ := hJ ht4
      have ej : (qa_add ns (qd_nm t i)).getD j [] = [112 + i] := by
        rw [← hc.2, eJ, k3, hnm ht4]
      rw [hc.2]
      unfold qv_v qg_m
      rw [if_pos hj, ej, qg_ix_of hi, if_pos hi]
      unfold qg_N'
      rw [if_pos (by omega), if_pos rfl]
      rfl
    · rw [if_neg hc, h4 j hj]
      congr 1
      unfold qg_m
      rcases Nat.lt_or_ge j ns.length with hjn | hjn
      · have eg := qg_pre k4 hjn
        have hjn' : j < (qa_add ns (qd_nm t i)).length := Nat.lt_of_lt_of_le hjn k4.length_le
        rw [eg]
        by_cases hx : qg_ix (ns.getD j []) < 4
        · rw [if_pos hx, if_pos hx]
          unfold qg_N'
          split
          · next ht2 =>
            dsimp only
            rw [if_neg]
            intro z
            have ew := qg_ix_eq hx
            rw [z] at ew
            have ei := qg_idx hn' hjn' (eg.trans ew)
            refine hc ⟨hodd.mpr (by omega), ?_⟩
            rw [hJ (by omega), hnm (by omega)]
            rw [hnm (by omega)] at ei
            exact ei
          · rfl
        · rw [if_neg hx, if_neg hx]
      · rw [qg_out hjn, if_neg (by decide)]
        by_cases hlast : j < (qa_add ns (qd_nm t i)).length
        · -- the name that was added
          have hno : ¬ ns.idxOf (qd_nm t i) < ns.length := fun z => by
            have : qa_add ns (qd_nm t i) = ns := by unfold qa_add; rw [if_pos z]
            rw [this] at hlast
            omega
          have ea : qa_add ns (qd_nm t i) = ns ++ [qd_nm t i] := by unfold qa_add; rw [if_neg hno]
          have ejl : j = ns.length := by
            rw [ea, List.length_append] at hlast
            simp only [List.length_cons, List.length_nil] at hlast
            omega
          have eg : (qa_add ns (qd_nm t i)).getD j [] = qd_nm t i := by rw [ea, ejl, xr_getD_append_here]
          rw [eg]
          by_cases ht4 : t < 4
          · have eix : qg_ix (qd_nm t i) = i := by rw [hnm ht4]; exact qg_ix_of hi
            rw [eix, if_pos hi]
            have hev : ¬ (t = 1 ∨ t = 3) := fun z => by
              refine hc ⟨hodd.mpr (by omega), ?_⟩
              rw [hJ ht4]
              exact qg_idx hn' hlast eg
            unfold qg_N'
            rw [if_neg hev]
            cases eN : gN i with
            | none => rfl
            | some m =>
              exfalso
              have := h3 i m hi eN
              rw [← hnm ht4] at this
              exact hno (List.idxOf_lt_length_iff.mpr this)
          · have eix : qg_ix (qd_nm t i) = 4 := by
              unfold qd_nm
              rw [if_neg ht4]
              match i, hi with
              | 0, _ => rfl
              | 1, _ => rfl
              | 2, _ => rfl
              | 3, _ => rfl
              | n + 4, h => omega
            rw [eix, if_neg (by decide)]
        · rw [qg_out (by omega), if_neg (by decide)]
  · rw [hO e (32 + c) h1 he]
    by_cases hcc : (t % 2 == 1) = true ∧ qd_j t i (qa_add ns (qd_nm t i)) = 32 + c
    · rw [if_pos hcc]
      have ht1 := hodd.mp hcc.1
      have ht4 : ¬ t < 4 := fun z => by
        have := hJ z
        omega
      have ec : qa_tgt i = c := by
        have := hJ2 ht4
        omega
      rw [hcc.2]
      unfold qv_v qg_k
      rw [if_neg (by omega), ← ec, qg_cx_of hi, if_pos hi]
      unfold qg_K'
      rw [if_pos (by omega), if_pos rfl]
      rfl
    · rw [if_neg hcc, h5 c hc]
      congr 1
      unfold qg_k
      by_cases hx : qg_cx c < 4
      · rw [if_pos hx, if_pos hx]
        unfold qg_K'
        split
        · next ht5 =>
          dsimp only
          rw [if_neg]
          intro z
          have ew := qg_cx_eq hx
          rw [z] at ew
          refine hcc ⟨hodd.mpr (by omega), ?_⟩
          rw [hJ2 (by omega), ← ew]
        · rfl
      · rw [if_neg hx, if_neg hx]
theorem qg_same {e : Nat} {nA ns : List (List Nat)} {QA Q Q' : pm_Q} {gN : qg_N} {gK : qg_K} (h : qg_I e nA QA gN gK ns Q) (hO : ∀ j, qv_O e j Q' = qv_O e j Q) : qg_I e nA QA gN gK ns Q' :=
  ⟨h.1, h.2.1, h.2.2.1, fun j hj => (hO j).trans (h.2.2.2.1 j hj), fun c hc => (hO _).trans (h.2.2.2.2 c hc)⟩
theorem qg_fin {e : Nat} {nA ns : List (List Nat)} {QA Q : pm_Q} {gN : qg_N} {gK : qg_K} (h : qg_I e nA QA gN gK ns Q) (hl : ∀ s, s ∈ Q.2.2.1 → s.2.1 < e) : (∀ j, j < 32 → Q.2.1 j = qg_m gN QA.2.1 ns j) ∧ ∀ c, c < 128 → Q.1 c = qg_k gK QA.1 c := by
  refine ⟨fun j hj => ?_, fun c hc => ?_⟩
  · have := h.2.2.2.1 j hj
    unfold qv_O at this
    rw [qv_low hl] at this
    unfold qv_c qv_v at this
    rw [if_pos hj] at this
    exact congrArg Prod.fst this
  · have := h.2.2.2.2 c hc
    unfold qv_O at this
    rw [qv_low hl] at this
    unfold qv_c qv_v at this
    rw [if_neg (by omega), Nat.add_sub_cancel_left] at this
    exact congrArg Prod.snd this
end QG
