section YR
/-- the reference's six tables: kinds, values, lengths, texts -/
abbrev yr_W : Type := (Nat → Int32) × (Nat → Int32) × (Nat → Int32) × (Nat → Int32) × (Nat → Int32) × (Nat → Int32)
def yr_M (w : yr_W) (s : Nat) (m : pm_Mn) : Prop := w.1 s = nI m.1 ∧ w.2.1 s = nI m.2.1 ∧ (m.1 = 2 → w.2.2.1 s = nI m.2.2.1.length ∧ w.2.2.2.1 s = nI m.2.2.2.length ∧ (∀ j, j < m.2.2.1.length → w.2.2.2.2.1 (s * 8 + j) = nI (m.2.2.1.getD j 0)) ∧ ∀ j, j < m.2.2.2.length → w.2.2.2.2.2 (s * 24 + j) = nI (m.2.2.2.getD j 0))
def yr_cp (w w' : yr_W) (f t : Nat) : Prop := (w'.1 t = w.1 f ∧ w'.2.1 t = w.2.1 f ∧ w'.2.2.1 t = w.2.2.1 f ∧ w'.2.2.2.1 t = w.2.2.2.1 f ∧ (∀ j, j < 8 → w'.2.2.2.2.1 (t * 8 + j) = w.2.2.2.2.1 (f * 8 + j)) ∧ ∀ j, j < 24 → w'.2.2.2.2.2 (t * 24 + j) = w.2.2.2.2.2 (f * 24 + j)) ∧
  (∀ s, s ≠ t → w'.1 s = w.1 s ∧ w'.2.1 s = w.2.1 s ∧ w'.2.2.1 s = w.2.2.1 s ∧ w'.2.2.2.1 s = w.2.2.2.1 s) ∧ (∀ j, (j < t * 8 ∨ t * 8 + 8 ≤ j) → w'.2.2.2.2.1 j = w.2.2.2.2.1 j) ∧ ∀ j, (j < t * 24 ∨ t * 24 + 24 ≤ j) → w'.2.2.2.2.2 j = w.2.2.2.2.2 j
theorem yr_cp_to {w w' : yr_W} {f t : Nat} {m : pm_Mn} (h : yr_cp w w' f t) (h8 : m.2.2.1.length ≤ 8) (h24 : m.2.2.2.length ≤ 24) (g : yr_M w f m) : yr_M w' t m := by
  obtain ⟨⟨h1, h2, h3, h4, h5, h6⟩, h7⟩ := h
  refine ⟨h1.trans g.1, h2.trans g.2.1, fun z => ?_⟩
  obtain ⟨g1, g2, g3, g4⟩ := g.2.2 z
  exact ⟨h3.trans g1, h4.trans g2, fun j hj => (h5 j (by omega)).trans (g3 j hj), fun j hj => (h6 j (by omega)).trans (g4 j hj)⟩
theorem yr_cp_ne {w w' : yr_W} {f t s : Nat} {m : pm_Mn} (h : yr_cp w w' f t) (hs : s ≠ t) (h8 : m.2.2.1.length ≤ 8) (h24 : m.2.2.2.length ≤ 24) (g : yr_M w s m) : yr_M w' s m := by
  obtain ⟨_, h2, h3, h4⟩ := h
  obtain ⟨k1, k2, k3, k4⟩ := h2 s hs
  refine ⟨k1.trans g.1, k2.trans g.2.1, fun z => ?_⟩
  obtain ⟨g1, g2, g3, g4⟩ := g.2.2 z
  exact ⟨k3.trans g1, k4.trans g2, fun j hj => (h3 _ (by omega)).trans (g3 j hj), fun j hj => (h4 _ (by omega)).trans (g4 j hj)⟩
/-- the reference's saves -/
def yr_V (si sl : Nat → Int32) (w : yr_W) : List pm_Sv → Prop
  | [] => True
  | s :: S => (si S.length = nI s.1 ∧ sl S.length = nI s.2.1 ∧ (s.1 < 32 → yr_M w (32 + S.length) s.2.2.1) ∧ (32 ≤ s.1 → w.2.1 (32 + S.length) = nI s.2.2.2)) ∧ yr_V si sl w S
/-- the reference's state v shows the machine's state P -/
def yr_R (L : List Nat) (lim : Nat) (P : pm_P) (w : yr_W) (ar ast aln : Nat → Int32) (rn : Int32) (v : SY) : Prop :=
  match P with
  | ((st, rest, ps, ns), C, M, S, d, c, o, x) => ∃ (ip pc : Int32) (inp cat pend out nl nch si sl cd stk : Nat → Int32),
    v = (nI lim, nI x, nI st, rn, nI L.length, ip, pc, nI o.length, nI ns.length, nI S.length, nI d, nI c.length, inp, cat, pend, out, nl, nch, w.1, w.2.1, w.2.2.1, w.2.2.2.1, w.2.2.2.2.1, w.2.2.2.2.2, si, sl, cd, ar, ast, aln, stk) ∧
    xr_L inp L ∧ (st < 100 ∧ (st = 0 → (∃ pre, L = pre ++ rest ∧ ip = nI pre.length) ∧ pc = nI ps.length ∧ xr_L pend ps)) ∧ xr_L out o ∧ (∀ j, j < 128 → cat j = nI (C j)) ∧ yr_N nl nch ns ∧ (∀ i, i < 32 → yr_M w i (M i)) ∧ yr_V si sl w S ∧ xr_S cd c
end YR
section YT
variable {post : Int32 → SY → Prop} {C : Nat → Nat} {L : List Nat} {F1 F2 F3 F4 F5 F6 F7 F8 F9 F10 F11 F12 : Int32} {A1 A2 A3 A4 A5 A6 A7 A8 A9 A10 A11 A12 A13 A14 A15 A16 A17 A18 A19 : Nat → Int32}
theorem yt_120 (hL : L.length ≤ 256) (hc : ∀ c, c ∈ L → c < 128) (hin : xr_L A1 L) (hcat : ∀ j, j < 128 → A2 j = nI (C j)) (hC : ∀ a, a < 128 → C a < 8) {x1 x3 : Int32} : ∀ (cs pre : List Nat) (n g : Nat), L = pre ++ cs → cs.length < n → g + cs.length ≤ 255 →
    (∀ pre' : List Nat, L = pre' ++ cs.dropWhile (fun c => C c == 4) → wY_csName_177 post x1 x3 F1 F2 F3 F4 (nI L.length) (nI pre'.length) F7 F8 F9 F10 F11 F12 A1 A2 A3 A4 A5 A6 A7 A8 A9 A10 A11 A12 A13 A14 A15 A16 A17 A18 A19) → wY_csName_120 post x1 1 x3 F1 F2 F3 F4 (nI L.length) F7 F8 F9 F10 F11 F12 A1 A2 A3 A4 A5 A6 A7 A8 A9 A10 A11 A12 A13 A14 A15 A16 A17 A18 A19 n (nI g) (nI pre.length) := by
  intro cs
  induction cs with
  | nil =>
    intro pre n g hl hn hg K
    obtain ⟨n, rfl⟩ : ∃ m, n = m + 1 := ⟨n - 1, by omega⟩
    have k := K pre hl
    refine br_f (nI_ge (b := 256) (by omega) (by decide)) (br_f ci_10 (br_t ?_ k))
    rw [hl, List.append_nil]
    exact nI_le (Nat.le_refl _) (by rw [hl, List.append_nil] at hL; omega)
  | cons c cs ih =>
    intro pre n g hl hn hg K
    obtain ⟨n, rfl⟩ : ∃ m, n = m + 1 := ⟨n - 1, by omega⟩
    have hg' : g + (cs.length + 1) ≤ 255 := hg
    obtain ⟨l1, l2, l3⟩ := xt_lt hl
    have hcm : c < 128 := hc c (by rw [hl]; exact List.mem_append_right _ List.mem_cons_self)
    have ea : A1 (nI pre.length).toNatClampNeg = nI c := by rw [nI_clamp (by omega)]; rw [hl] at hin; exact xt_at hin
    have ec : A2 (nI c).toNatClampNeg = nI (C c) := by rw [nI_clamp (by omega)]; exact hcat c hcm
    refine br_f (nI_ge (b := 256) (by omega) (by decide)) (br_f ci_10 (br_f (nI_ge l1 (by omega)) ⟨vp_in_nI (by omega) (by decide), ?_⟩))
    rw [ea, ec]
    refine ⟨vp_in_nI hcm (by decide), ?_⟩
    have h8 := hC c hcm
    by_cases h4 : C c = 4
    · refine br_t (by rw [h4]; rfl) (nm_r (nI_1 _) (nm_r (nI_1 _) ?_))
      rw [← l3]
      refine ih (pre ++ [c]) n (g + 1) l2 (by simpa using hn) (by omega) (fun pre' hp => K pre' ?_)
      rw [List.dropWhile_cons_of_pos (by rw [h4]; rfl)]
      exact hp
    · refine br_f (fun z => h4 ((nI_eq (b := 4) (by omega) (by decide)).mp z)) (K pre ?_)
      rw [List.dropWhile_cons_of_neg (by simpa using h4)]
      exact hl
theorem yt_56 (hL : L.length ≤ 256) (hc : ∀ c, c ∈ L → c < 128) (hin : xr_L A1 L) (hcat : ∀ j, j < 128 → A2 j = nI (C j)) (hC : ∀ a, a < 128 → C a < 8) {x1 : Int32} : ∀ (cs pre : List Nat) (n g : Nat), L = pre ++ cs → cs.length < n → g + cs.length ≤ 255 →
    (∀ pre' : List Nat, L = pre' ++ cs.dropWhile (fun c => C c == 5) → pre'.length = pre.length + (cs.takeWhile (fun c => C c == 5)).length → ∃ n120 : Nat, wY_csName_120 post x1 1 (nI pre'.length) F1 F2 F3 F4 (nI L.length) F7 F8 F9 F10 F11 F12 A1 A2 A3 A4 A5 A6 A7 A8 A9 A10 A11 A12 A13 A14 A15 A16 A17 A18 A19 n120 0 (nI pre'.length)) → wY_csName_56 post x1 1 F1 F2 F3 F4 (nI L.length) F7 F8 F9 F10 F11 F12 A1 A2 A3 A4 A5 A6 A7 A8 A9 A10 A11 A12 A13 A14 A15 A16 A17 A18 A19 n (nI g) (nI pre.length) := by
  intro cs
  induction cs with
  | nil =>
    intro pre n g hl hn hg K
    obtain ⟨n, rfl⟩ : ∃ m, n = m + 1 := ⟨n - 1, by omega⟩
    have k := K pre hl rfl
    refine br_f (nI_ge (b := 256) (by omega) (by decide)) (br_f ci_10 (br_t ?_ k))
    rw [hl, List.append_nil]
    exact nI_le (Nat.le_refl _) (by rw [hl, List.append_nil] at hL; omega)
  | cons c cs ih =>
    intro pre n g hl hn hg K
    obtain ⟨n, rfl⟩ : ∃ m, n = m + 1 := ⟨n - 1, by omega⟩
    have hg' : g + (cs.length + 1) ≤ 255 := hg
    obtain ⟨l1, l2, l3⟩ := xt_lt hl
    have hcm : c < 128 := hc c (by rw [hl]; exact List.mem_append_right _ List.mem_cons_self)
    have ea : A1 (nI pre.length).toNatClampNeg = nI c := by rw [nI_clamp (by omega)]; rw [hl] at hin; exact xt_at hin
    have ec : A2 (nI c).toNatClampNeg = nI (C c) := by rw [nI_clamp (by omega)]; exact hcat c hcm
    refine br_f (nI_ge (b := 256) (by omega) (by decide)) (br_f ci_10 (br_f (nI_ge l1 (by omega)) ⟨vp_in_nI (by omega) (by decide), ?_⟩))
    rw [ea, ec]
    refine ⟨vp_in_nI hcm (by decide), ?_⟩
    have h8 := hC c hcm
    by_cases h5 : C c = 5
    · refine br_t (by rw [h5]; rfl) (nm_r (nI_1 _) (nm_r (nI_1 _) ?_))
      rw [← l3]
      refine ih (pre ++ [c]) n (g + 1) l2 (by simpa using hn) (by omega) (fun pre' hp hp2 => K pre' ?_ ?_)
      · rw [List.dropWhile_cons_of_pos (by rw [h5]; rfl)]
        exact hp
      · rw [List.takeWhile_cons_of_pos (by rw [h5]; rfl), hp2, l3, List.length_cons]
        omega
    · refine br_f (fun z => h5 ((nI_eq (b := 5) (by omega) (by decide)).mp z)) (K pre ?_ ?_)
      · rw [List.dropWhile_cons_of_neg (by simpa using h5)]
        exact hl
      · rw [List.takeWhile_cons_of_neg (by simpa using h5)]
        rfl
theorem yt_259 {k s e : Nat} {w : List Nat} (hk : k < 32) (he : e = s + w.length) (hw : w.length ≤ 8) (hs : s + w.length ≤ 256) (hin : ∀ j, j < w.length → A1 (s + j) = nI (w.getD j 0))
    (K : ∀ ch : Nat → Int32, (∀ j, j < w.length → ch (k * 12 + j) = nI (w.getD j 0)) → (∀ q, q < k * 12 → ch q = A6 q) → post (nI (1024 + k)) (F1, F2, F3, F4, F5, F6, F7, F8, nI (k + 1), F10, F11, F12, A1, A2, A3, A4, A5, ch, A7, A8, A9, A10, A11, A12, A13, A14, A15, A16, A17, A18, A19)) :
    ∀ (n i : Nat) (ch : Nat → Int32), w.length < n + i → i ≤ w.length → (∀ j, j < i → ch (k * 12 + j) = nI (w.getD j 0)) → (∀ q, q < k * 12 → ch q = A6 q) → wY_csName_259 post (nI s) (nI e) F1 F2 F3 F4 F5 F6 F7 F8 (nI k) F10 F11 F12 n (nI i) A1 A2 A3 A4 A5 ch A7 A8 A9 A10 A11 A12 A13 A14 A15 A16 A17 A18 A19 := by
  have ed : nI e - nI s = nI w.length := by rw [pk_sub (by omega), he, Nat.add_sub_cancel_left]
  intro n
  induction n with
  | zero => intro i ch h1 h2; omega
  | succ n ih =>
    intro i ch h1 h2 h3 h4
    by_cases hi : i = w.length
    · subst hi
      refine br_t (by rw [ed]; exact nI_le (Nat.le_refl _) (by omega)) (nm_r (nI_1 _) ?_)
      have e2 : (1023 : Int32) + nI (k + 1) = nI (1024 + k) := by
        have : (1023 : Int32) + nI (k + 1) = nI (1023 + (k + 1)) := nI_add 1023 (k + 1)
        rw [this, show 1023 + (k + 1) = 1024 + k from by omega]
      rw [e2]
      exact K ch h3 h4
    · have e1 : nI s + nI i = nI (s + i) := nI_add _ _
      have e2 : nI k * 12 + nI i = nI (k * 12 + i) := by rw [← nI_add, ← pk_mul]; rfl
      refine br_f (by rw [ed]; exact nI_ge (by omega) (by omega)) ?_
      rw [e1, e2, nI_clamp (by omega), nI_clamp (by omega)]
      refine ⟨vp_in_nI (by omega) (by decide), vp_in_nI (by omega) (by decide), fun ch' q => nm_r (nI_1 _) ?_⟩
      subst q
      refine ih (i + 1) _ (by omega) (by omega) (fun j hj => ?_) (fun q hq => ?_)
      · by_cases ej : j = i
        · rw [ej, pk_us]
          exact hin i (by omega)
        · rw [pk_un (by omega)]
          exact h3 j (by omega)
      · rw [pk_un (by omega)]
        exact h4 q hq
theorem yt_17 {pb : Int32 → Prop} {i s e : Nat} {w v : List Nat} (hi : i < 32) (he : e = s + w.length) (hw : w.length ≤ 8) (hs : s + w.length ≤ 256) (hin : ∀ j, j < w.length → A1 (s + j) = nI (w.getD j 0)) (hv : ∀ j, j < v.length → A6 (i * 12 + j) = nI (v.getD j 0)) (bw : ∀ j, w.getD j 0 < 128) (bv : ∀ j, v.getD j 0 < 128) (Ky : v = w → pb 1) (Kn : v ≠ w → pb 0) (hl : v.length = w.length) :
    ∀ (n j : Nat), w.length < n + j → j ≤ w.length → (∀ q, q < j → v.getD q 0 = w.getD q 0) → wY_same_17 pb (nI i) (nI s) (nI e) F1 F2 F3 F4 F5 F6 F7 F8 F9 F10 F11 F12 A1 A2 A3 A4 A5 A6 A7 A8 A9 A10 A11 A12 A13 A14 A15 A16 A17 A18 A19 n (nI j) := by
  have ed : nI e - nI s = nI w.length := by rw [pk_sub (by omega), he, Nat.add_sub_cancel_left]
  intro n
  induction n with
  | zero => intro j h1 h2; omega
  | succ n ih =>
    intro j h1 h2 h3
    by_cases hj : j = w.length
    · refine br_t (by rw [ed, hj]; exact nI_le (Nat.le_refl _) (by omega)) (Ky (xr_ext hl (fun q hq => h3 q (by omega))))
    · have e1 : nI s + nI j = nI (s + j) := nI_add _ _
      have e2 : nI i * 12 + nI j = nI (i * 12 + j) := by rw [← nI_add, ← pk_mul]; rfl
      have b1 := bw j
      have b2 := bv j
      refine br_f (by rw [ed]; exact nI_ge (by omega) (by omega)) ?_
      rw [e1, e2, nI_clamp (by omega), nI_clamp (by omega), hin j (by omega), hv j (by omega)]
      refine ⟨vp_in_nI (by omega) (by decide), vp_in_nI (by omega) (by decide), ?_⟩
      by_cases hq : v.getD j 0 = w.getD j 0
      · refine br_t (by rw [hq]) (nm_r (nI_1 _) (ih (j + 1) (by omega) (by omega) (fun q hq' => ?_)))
        by_cases eq : q = j
        · rw [eq]; exact hq
        · exact h3 q (by omega)
      · exact br_f (fun z => hq ((nI_eq (by omega) (by omega)).mp z)) (Kn (fun z => hq (by rw [z])))
theorem yt_195 {ns : List (List Nat)} {s e : Nat} {w : List Nat} (hn : pi_ns ns) (hN : yr_N A5 A6 ns) (he : e = s + w.length) (hw : w.length ≤ 8) (hs : s + w.length ≤ 256) (hwc : ∀ c, c ∈ w → c < 128) (hin : ∀ j, j < w.length → A1 (s + j) = nI (w.getD j 0))
    (K1 : ∀ j, j < ns.length → ns.idxOf w = j → post (nI (1024 + j)) (F1, F2, F3, F4, F5, F6, F7, F8, nI ns.length, F10, F11, F12, A1, A2, A3, A4, A5, A6, A7, A8, A9, A10, A11, A12, A13, A14, A15, A16, A17, A18, A19))
    (K2 : 32 ≤ ns.length → ns.idxOf w = ns.length → post (-1) (F1, F2, 5, F4, F5, F6, F7, F8, nI ns.length, F10, F11, F12, A1, A2, A3, A4, A5, A6, A7, A8, A9, A10, A11, A12, A13, A14, A15, A16, A17, A18, A19))
    (K3 : ns.length < 32 → ns.idxOf w = ns.length → ∀ nl ch : Nat → Int32, yr_N nl ch (ns ++ [w]) → post (nI (1024 + ns.length)) (F1, F2, F3, F4, F5, F6, F7, F8, nI (ns.length + 1), F10, F11, F12, A1, A2, A3, A4, nl, ch, A7, A8, A9, A10, A11, A12, A13, A14, A15, A16, A17, A18, A19)) :
    ∀ (n i : Nat), ns.length < n + i → i ≤ ns.length → (∀ j, j < i → ns.getD j [] ≠ w) → wY_csName_195 post (nI s) (nI e) F1 F2 F3 F4 F5 F6 F7 F8 (nI ns.length) F10 F11 F12 A1 A2 A3 A4 A5 A6 A7 A8 A9 A10 A11 A12 A13 A14 A15 A16 A17 A18 A19 n (nI i) := by
  have ed : nI e - nI s = nI w.length := by rw [pk_sub (by omega), he, Nat.add_sub_cancel_left]
  obtain ⟨n1, n2, n3, n4⟩ := hn
  intro n
  induction n with
  | zero => intro i h1 h2; omega
  | succ n ih =>
    intro i h1 h2 h3
    by_cases hi : i = ns.length
    · subst hi
      have hx := xn_idxN h3
      refine br_t (nI_le (Nat.le_refl _) (by omega)) ?_
      by_cases h32 : ns.length < 32
      · refine br_f (fun z => by have := (nI_eq (b := 32) (by omega) (by decide)).mp z; omega) ⟨vp_in_nI h32 (by decide), fun nl q => ⟨w.length + 1, ?_⟩⟩
        rw [nI_clamp (by omega), ed] at q
        subst q
        refine yt_259 h32 he hw hs hin (fun ch c1 c2 => K3 h32 hx _ _ ?_) (w.length + 1) 0 A6 (by omega) (by omega) (fun j hj => absurd hj (Nat.not_lt_zero _)) (fun q hq => rfl)
        exact yr_N_push hN (fun v hv => (n4 v hv).2.1) pk_us c1 (fun i hi => pk_un (by omega)) c2
      · exact br_t (by rw [show ns.length = 32 from by omega]; rfl) (K2 (by omega) hx)
    · have hi' : i < ns.length := by omega
      obtain ⟨b1, b2⟩ := xn_bd n4 hi'
      obtain ⟨x1, x2⟩ := hN i hi'
      have Ky : ns.getD i [] = w → ((((1 : Int32) = 0 → (∀ y : Int32, y = nI i + 1 → wY_csName_195 post (nI s) (nI e) F1 F2 F3 F4 F5 F6 F7 F8 (nI ns.length) F10 F11 F12 A1 A2 A3 A4 A5 A6 A7 A8 A9 A10 A11 A12 A13 A14 A15 A16 A17 A18 A19 n y)) ∧ (¬ (1 : Int32) = 0 → post (1024 + nI i) (F1, F2, F3, F4, F5, F6, F7, F8, nI ns.length, F10, F11, F12, A1, A2, A3, A4, A5, A6, A7, A8, A9, A10, A11, A12, A13, A14, A15, A16, A17, A18, A19)))) := fun e' => by
        refine br_f ci_10 ?_
        have e2 : (1024 : Int32) + nI i = nI (1024 + i) := nI_add 1024 i
        rw [e2]
        exact K1 i hi' (xn_idx hi' e' h3)
      have Kn : ns.getD i [] ≠ w → ((((0 : Int32) = 0 → (∀ y : Int32, y = nI i + 1 → wY_csName_195 post (nI s) (nI e) F1 F2 F3 F4 F5 F6 F7 F8 (nI ns.length) F10 F11 F12 A1 A2 A3 A4 A5 A6 A7 A8 A9 A10 A11 A12 A13 A14 A15 A16 A17 A18 A19 n y)) ∧ (¬ (0 : Int32) = 0 → post (1024 + nI i) (F1, F2, F3, F4, F5, F6, F7, F8, nI ns.length, F10, F11, F12, A1, A2, A3, A4, A5, A6, A7, A8, A9, A10, A11, A12, A13, A14, A15, A16, A17, A18, A19)))) := fun e' => by
        refine br_t rfl (nm_r (nI_1 _) (ih (i + 1) (by omega) (by omega) (fun j hj => ?_)))
        by_cases ej : j = i
        · rw [ej]; exact e'
        · exact h3 j (by omega)
      refine br_f (nI_ge hi' (by omega)) ⟨vp_in_nI (by omega) (by decide), ?_⟩
      rw [nI_clamp (by omega), x1, ed]
      by_cases hl : (ns.getD i []).length = w.length
      · refine br_t (by rw [hl]) ⟨w.length + 1, ?_⟩
        exact yt_17 (by omega) he hw hs hin x2 (xn_gb hwc) (xn_gb b2) Ky Kn hl (w.length + 1) 0 (by omega) (by omega) (fun q hq => absurd hq (Nat.not_lt_zero _))
      · refine br_f (fun z => hl ((nI_eq (by omega) (by omega)).mp z)) (Kn (fun z => hl (by rw [z])))
end YT
