section YM
variable {L : List Nat} {lim : Nat} {w : yr_W} {ar ast aln : Nat → Int32} {rn : Int32} {v : SY} {post : SY → Prop} {F1 F2 F3 F4 F5 F6 F7 F8 F9 F10 F11 F12 : Int32} {A1 A2 A3 A4 A5 A6 A7 A8 A9 A10 A11 A12 A13 A14 A15 A16 A17 A18 A19 : Nat → Int32}
theorem ym_eq {k : Nat} {m m' : pm_Mn} (hm : pi_mn k m) (hm' : pi_mn k m') (e1 : m.1 = m'.1) (e2 : m.2.1 = m'.2.1) (h2 : m.1 ≠ 2) : m = m' := by
  have key : ∀ m : pm_Mn, pi_mn k m → m.1 ≠ 2 → m = (m.1, m.2.1, [], []) := fun m hm h2 => by
    obtain ⟨a, b, c, d⟩ := m
    rcases hm with z | z | z | z
    · cases z; rfl
    · have h3 : c = [] := z.2.2.2.1
      have h4 : d = [] := z.2.2.2.2
      rw [h3, h4]
    · exact absurd z.1 h2
    · have h3 : c = [] := z.2.2.2.1
      have h4 : d = [] := z.2.2.2.2
      rw [h3, h4]
  rw [key m hm h2, key m' hm' (by rw [← e1]; exact h2), e1, e2]
theorem ym_199 {pb : Int32 → Prop} {a b : Nat} {l l' : List Nat} (ha : a < 65) (hb : b < 65) (h24 : l.length ≤ 24) (hl : l.length = l'.length) (hr : A10 a = nI l.length) (h1 : ∀ j, j < l.length → A12 (a * 24 + j) = nI (l.getD j 0)) (h2 : ∀ j, j < l'.length → A12 (b * 24 + j) = nI (l'.getD j 0)) (b1 : ∀ j, l.getD j 0 < 4096) (b2 : ∀ j, l'.getD j 0 < 4096) (Ky : l = l' → pb 1) (Kn : l ≠ l' → pb 0) : ∀ (n i : Nat), l.length < n + i → i ≤ l.length → (∀ j, j < i → l.getD j 0 = l'.getD j 0) → wY_meq_199 pb (nI a) (nI b) F1 F2 F3 F4 F5 F6 F7 F8 F9 F10 F11 F12 A1 A2 A3 A4 A5 A6 A7 A8 A9 A10 A11 A12 A13 A14 A15 A16 A17 A18 A19 n (nI i) := by
  intro n
  induction n with
  | zero => intro i g1 g2; omega
  | succ n ih =>
    intro i g1 g2 g3
    refine ⟨vp_in_nI ha (by decide), ?_⟩
    rw [nI_clamp (by omega), hr]
    by_cases hi : i = l.length
    · exact br_t (by rw [hi]; exact nI_le (Nat.le_refl _) (by omega)) (Ky (xr_ext hl (fun j hj => g3 j (by omega))))
    · have e1 : nI a * 24 + nI i = nI (a * 24 + i) := by rw [← nI_add, ← pk_mul]; rfl
      have e2 : nI b * 24 + nI i = nI (b * 24 + i) := by rw [← nI_add, ← pk_mul]; rfl
      have c1 := b1 i
      have c2 := b2 i
      refine br_f (nI_ge (by omega) (by omega)) ?_
      rw [e1, e2, nI_clamp (by omega), nI_clamp (by omega), h1 i (by omega), h2 i (by omega)]
      refine ⟨vp_in_nI (by omega) (by decide), vp_in_nI (by omega) (by decide), ?_⟩
      by_cases hq : l.getD i 0 = l'.getD i 0
      · refine br_t (by rw [hq]) (nm_r (nI_1 _) (ih (i + 1) (by omega) (by omega) (fun j hj => ?_)))
        by_cases ej : j = i
        · rw [ej]; exact hq
        · exact g3 j (by omega)
      · exact br_f (fun z => hq ((nI_eq (by omega) (by omega)).mp z)) (Kn (fun z => hq (by rw [z])))
theorem ym_147 {pb : Int32 → Prop} {a b : Nat} {l l' : List Nat} (ha : a < 65) (hb : b < 65) (h8 : l.length ≤ 8) (hl : l.length = l'.length) (hr : A9 a = nI l.length) (h1 : ∀ j, j < l.length → A11 (a * 8 + j) = nI (l.getD j 0)) (h2 : ∀ j, j < l'.length → A11 (b * 8 + j) = nI (l'.getD j 0)) (b1 : ∀ j, l.getD j 0 < 4096) (b2 : ∀ j, l'.getD j 0 < 4096) (Ky : l = l' → ∃ n199 : Nat, wY_meq_199 pb (nI a) (nI b) F1 F2 F3 F4 F5 F6 F7 F8 F9 F10 F11 F12 A1 A2 A3 A4 A5 A6 A7 A8 A9 A10 A11 A12 A13 A14 A15 A16 A17 A18 A19 n199 0) (Kn : l ≠ l' → pb 0) : ∀ (n i : Nat), l.length < n + i → i ≤ l.length → (∀ j, j < i → l.getD j 0 = l'.getD j 0) → wY_meq_147 pb (nI a) (nI b) F1 F2 F3 F4 F5 F6 F7 F8 F9 F10 F11 F12 A1 A2 A3 A4 A5 A6 A7 A8 A9 A10 A11 A12 A13 A14 A15 A16 A17 A18 A19 n (nI i) := by
  intro n
  induction n with
  | zero => intro i g1 g2; omega
  | succ n ih =>
    intro i g1 g2 g3
    refine ⟨vp_in_nI ha (by decide), ?_⟩
    rw [nI_clamp (by omega), hr]
    by_cases hi : i = l.length
    · exact br_t (by rw [hi]; exact nI_le (Nat.le_refl _) (by omega)) (Ky (xr_ext hl (fun j hj => g3 j (by omega))))
    · have e1 : nI a * 8 + nI i = nI (a * 8 + i) := by rw [← nI_add, ← pk_mul]; rfl
      have e2 : nI b * 8 + nI i = nI (b * 8 + i) := by rw [← nI_add, ← pk_mul]; rfl
      have c1 := b1 i
      have c2 := b2 i
      refine br_f (nI_ge (by omega) (by omega)) ?_
      rw [e1, e2, nI_clamp (by omega), nI_clamp (by omega), h1 i (by omega), h2 i (by omega)]
      refine ⟨vp_in_nI (by omega) (by decide), vp_in_nI (by omega) (by decide), ?_⟩
      by_cases hq : l.getD i 0 = l'.getD i 0
      · refine br_t (by rw [hq]) (nm_r (nI_1 _) (ih (i + 1) (by omega) (by omega) (fun j hj => ?_)))
        by_cases ej : j = i
        · rw [ej]; exact hq
        · exact g3 j (by omega)
      · exact br_f (fun z => hq ((nI_eq (by omega) (by omega)).mp z)) (Kn (fun z => hq (by rw [z])))
theorem ym_meq {pb : Int32 → Prop} {T : pm_T} {C : Nat → Nat} {M : Nat → pm_Mn} {q : List pm_Sv × Nat × List Nat × List Nat × Nat} {a b : Nat} (hR : yr_R L lim (T, C, M, q) w ar ast aln rn (F1, F2, F3, F4, F5, F6, F7, F8, F9, F10, F11, F12, A1, A2, A3, A4, A5, A6, A7, A8, A9, A10, A11, A12, A13, A14, A15, A16, A17, A18, A19)) (hI : pi_I lim (T, C, M, q)) (ha : pi_tok T.2.2.2.length a) (hb : pi_tok T.2.2.2.length b) (Ky : pm_mng M a = pm_mng M b → pb 1) (Kn : pm_mng M a ≠ pm_mng M b → pb 0) : wpY_meq pb (F1, F2, F3, F4, F5, F6, F7, F8, F9, F10, F11, F12, A1, A2, A3, A4, A5, A6, A7, A8, A9, A10, A11, A12, A13, A14, A15, A16, A17, A18, A19) (nI a) (nI b) := by
  have hk : T.2.2.2.length ≤ 32 := hI.1.1.2.1
  have hMi : pi_M T.2.2.2.length M := by obtain ⟨S, d, c, o, x⟩ := q; exact hI.2.2.1
  have hba := xs_tok hk ha
  have hbb := xs_tok hk hb
  have hma := pi_mng hMi hk ha
  have hmb := pi_mng hMi hk hb
  obtain ⟨sa1, sa2, sa3⟩ := xs_small hk (Or.inl hma)
  obtain ⟨sb1, sb2, sb3⟩ := xs_small hk (Or.inl hmb)
  obtain ⟨z1, z2, z3, z4, z5, z6, z7⟩ := yl_tab hR
  have hMM := yl_MM hR
  have a0 : (pm_mng M a).1 < 4096 := sa1 0
  have a1 : (pm_mng M a).2.1 < 4096 := sa1 1
  have b0 : (pm_mng M b).1 < 4096 := sb1 0
  have b1 : (pm_mng M b).2.1 < 4096 := sb1 1
  have gP : ∀ m : pm_Mn, (∀ i, xr_e m i < 4096) → ∀ j, j < 8 → m.2.2.1.getD j 0 < 4096 := fun m hm j hj => by
    have := hm (4 + j)
    unfold xr_e at this
    rw [if_neg (by omega), if_neg (by omega), if_neg (by omega), if_neg (by omega), if_pos (by omega), show 4 + j - 4 = j from by omega] at this
    exact this
  have gR : ∀ m : pm_Mn, (∀ i, xr_e m i < 4096) → ∀ j, m.2.2.2.getD j 0 < 4096 := fun m hm j => by
    have := hm (12 + j)
    unfold xr_e at this
    rw [if_neg (by omega), if_neg (by omega), if_neg (by omega), if_neg (by omega), if_neg (by omega), show 12 + j - 12 = j from by omega] at this
    exact this
  have gP' : ∀ m : pm_Mn, (∀ i, xr_e m i < 4096) → m.2.2.1.length ≤ 8 → ∀ j, m.2.2.1.getD j 0 < 4096 := fun m hm h8 j => by
    by_cases hj : j < 8
    · exact gP m hm j hj
    · rw [List.getD_eq_getElem?_getD, List.getElem?_eq_none (by omega)]
      decide
  have h72 : wY_meq_72 pb (nI a) (nI b) (nI (pm_mng M a).1) (nI (pm_mng M a).2.1) (nI (pm_mng M b).1) (nI (pm_mng M b).2.1) F1 F2 F3 F4 F5 F6 F7 F8 F9 F10 F11 F12 A1 A2 A3 A4 A5 A6 A7 A8 A9 A10 A11 A12 A13 A14 A15 A16 A17 A18 A19 := by
    by_cases c1 : (pm_mng M a).1 = (pm_mng M b).1
    · refine br_t (by rw [c1]) ?_
      by_cases c2 : (pm_mng M a).2.1 = (pm_mng M b).2.1
      · refine br_t (by rw [c2]) ?_
        by_cases c3 : (pm_mng M a).1 = 2
        · have hna : ¬ a < 1024 := fun z => by
            have : (pm_mng M a).1 = 3 := by unfold pm_mng; rw [if_pos z]
            omega
          have hnb : ¬ b < 1024 := fun z => by
            have : (pm_mng M b).1 = 3 := by unfold pm_mng; rw [if_pos z]
            omega
          have ea : pm_mng M a = M (a - 1024) := by unfold pm_mng; rw [if_neg hna]
          have eb : pm_mng M b = M (b - 1024) := by unfold pm_mng; rw [if_neg hnb]
          have ida := pi_id ha hk hna
          have idb := pi_id hb hk hnb
          obtain ⟨_, _, ga⟩ := hMM _ ida.2.1
          obtain ⟨_, _, gb⟩ := hMM _ idb.2.1
          rw [ea] at c1 c2 c3 Ky Kn sa1 sa2 sa3
          rw [eb] at c1 c2 Ky Kn sb1 sb2 sb3
          obtain ⟨ga1, ga2, ga3, ga4⟩ := ga c3
          obtain ⟨gb1, gb2, gb3, gb4⟩ := gb (by show (M (b - 1024)).1 = 2; rw [← c1]; exact c3)
          have fa : nI a - 1024 = nI (a - 1024) := pk_sub (b := 1024) (by omega)
          have fb : nI b - 1024 = nI (b - 1024) := pk_sub (b := 1024) (by omega)
          have va : vp_in (nI (a - 1024)) 65 := vp_in_nI (by omega) (by decide)
          have vb : vp_in (nI (b - 1024)) 65 := vp_in_nI (by omega) (by decide)
          have ka : (nI (a - 1024)).toNatClampNeg = a - 1024 := nI_clamp (by omega)
          have kb : (nI (b - 1024)).toNatClampNeg = b - 1024 := nI_clamp (by omega)
          have pa : A9 (a - 1024) = nI (M (a - 1024)).2.2.1.length := (congrFun z3 _).trans ga1
          have pb' : A9 (b - 1024) = nI (M (b - 1024)).2.2.1.length := (congrFun z3 _).trans gb1
          have ra : A10 (a - 1024) = nI (M (a - 1024)).2.2.2.length := (congrFun z4 _).trans ga2
          have rb : A10 (b - 1024) = nI (M (b - 1024)).2.2.2.length := (congrFun z4 _).trans gb2
          refine br_t (by rw [ea, c3]; rfl) (nm_r fa (nm_r fb ⟨va, vb, ?_⟩))
          rw [ka, kb, pa, pb', ra, rb]
          by_cases d1 : (M (a - 1024)).2.2.1.length = (M (b - 1024)).2.2.1.length
          · refine br_t (by rw [d1]) ⟨va, vb, ?_⟩
            by_cases d2 : (M (a - 1024)).2.2.2.length = (M (b - 1024)).2.2.2.length
            · refine br_t (by rw [d2]) ⟨(M (a - 1024)).2.2.1.length + 1, ?_⟩
              refine ym_147 (by omega) (by omega) sa2 d1 pa (fun j hj => (congrFun z5 _).trans (ga3 j hj)) (fun j hj => (congrFun z5 _).trans (gb3 j hj)) (gP' _ sa1 sa2) (gP' _ sb1 sb2) (fun t1 => ⟨(M (a - 1024)).2.2.2.length + 1, ?_⟩) (fun t1 => Kn (fun z => t1 (by rw [z]))) ((M (a - 1024)).2.2.1.length + 1) 0 (by omega) (by omega) (fun j hj => absurd hj (Nat.not_lt_zero _))
              refine ym_199 (by omega) (by omega) sa3 d2 ra (fun j hj => (congrFun z6 _).trans (ga4 j hj)) (fun j hj => (congrFun z6 _).trans (gb4 j hj)) (gR _ sa1) (gR _ sb1) (fun t2 => Ky ?_) (fun t2 => Kn (fun z => t2 (by rw [z]))) ((M (a - 1024)).2.2.2.length + 1) 0 (by omega) (by omega) (fun j hj => absurd hj (Nat.not_lt_zero _))
              exact Prod.ext c1 (Prod.ext c2 (Prod.ext t1 t2))
            · exact br_f (fun z => d2 ((nI_eq (by omega) (by omega)).mp z)) (Kn (fun z => d2 (by rw [z])))
          · exact br_f (fun z => d1 ((nI_eq (by omega) (by omega)).mp z)) (Kn (fun z => d1 (by rw [z])))
        · exact br_f (fun z => c3 ((nI_eq (b := 2) (by omega) (by decide)).mp z)) (Ky (ym_eq hma hmb c1 c2 c3))
      · exact br_f (fun z => c2 ((nI_eq (by omega) (by omega)).mp z)) (Kn (fun z => c2 (by rw [z])))
    · exact br_f (fun z => c1 ((nI_eq (by omega) (by omega)).mp z)) (Kn (fun z => c1 (by rw [z])))
  have h41 : wY_meq_41 pb (nI a) (nI b) (nI (pm_mng M a).1) (nI (pm_mng M a).2.1) 3 (nI b) F1 F2 F3 F4 F5 F6 F7 F8 F9 F10 F11 F12 A1 A2 A3 A4 A5 A6 A7 A8 A9 A10 A11 A12 A13 A14 A15 A16 A17 A18 A19 := by
    by_cases hlt : b < 1024
    · have eb : pm_mng M b = (3, b, [], []) := by unfold pm_mng; rw [if_pos hlt]
      rw [eb] at h72
      exact br_t (nI_lt (b := 1024) hlt (by decide)) h72
    · have eb : pm_mng M b = M (b - 1024) := by unfold pm_mng; rw [if_neg hlt]
      have idb := pi_id hb hk hlt
      obtain ⟨kv1, kv2⟩ := ys_kv hR idb.2.1
      have fb : nI b - 1024 = nI (b - 1024) := pk_sub (b := 1024) (by omega)
      have vb : vp_in (nI (b - 1024)) 65 := vp_in_nI (by omega) (by decide)
      rw [eb] at h72
      refine br_f (nI_nlt (b := 1024) (by omega) (by omega)) ?_
      rw [fb, nI_clamp (by omega), kv1, kv2]
      exact ⟨vb, nm_e ⟨vb, nm_e h72⟩⟩
  by_cases hlt : a < 1024
  · have ea : pm_mng M a = (3, a, [], []) := by unfold pm_mng; rw [if_pos hlt]
    rw [ea] at h41
    exact br_t (nI_lt (b := 1024) hlt (by decide)) h41
  · have ea : pm_mng M a = M (a - 1024) := by unfold pm_mng; rw [if_neg hlt]
    have ida := pi_id ha hk hlt
    obtain ⟨kv1, kv2⟩ := ys_kv hR ida.2.1
    have fa : nI a - 1024 = nI (a - 1024) := pk_sub (b := 1024) (by omega)
    have va : vp_in (nI (a - 1024)) 65 := vp_in_nI (by omega) (by decide)
    rw [ea] at h41
    refine br_f (nI_nlt (b := 1024) (by omega) (by omega)) ?_
    rw [fa, nI_clamp (by omega), kv1, kv2]
    exact ⟨va, nm_e ⟨va, nm_e h41⟩⟩
end YM
