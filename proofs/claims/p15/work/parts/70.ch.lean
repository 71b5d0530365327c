section QH
/-- x's remainder as the law takes it -/
def qh_m (x : Int32) (d : Nat) : Nat := x.toBitVec.toNat % 2 ^ 31 % d
theorem qh_lt {x : Int32} {d : Nat} (h : 0 < d) : qh_m x d < d := Nat.mod_lt _ h
theorem qh_wm {post : Int32 → Prop} {x : Int32} {d : Nat} (h0 : 0 < d) (hd : d < 2 ^ 31) (K : post (nI (qh_m x d))) : wpL_m post () x (nI d) := by
  have e : x &&& 2147483647 = nI (x.toBitVec.toNat % 2 ^ 31) := pk_and x 31 (by decide)
  refine ⟨nI_ne0 h0 hd, ?_⟩
  rw [e, pk_rem (Nat.mod_lt _ (by decide)) h0 hd]
  exact K
/-- the j-th of a list of chars, -1 behind its end -/
def qh_at (l : List Nat) (j : Nat) : Int32 := if j < l.length then nI (l.getD j 0) else -1
theorem qh_at0 {a : Nat} {l : List Nat} : qh_at (a :: l) 0 = nI a := rfl
theorem qh_atS {a j : Nat} {l : List Nat} : qh_at (a :: l) (j + 1) = qh_at l j := by
  unfold qh_at
  by_cases h : j < l.length
  · rw [if_pos h, if_pos (show j + 1 < (a :: l).length from Nat.succ_lt_succ h)]
    rfl
  · rw [if_neg h, if_neg (show ¬ j + 1 < (a :: l).length from fun z => h (Nat.lt_of_succ_lt_succ z))]
theorem qh_atN {j : Nat} : qh_at [] j = -1 := rfl
theorem qh_atA {j : Nat} {l r : List Nat} (h : l.length ≤ j) : qh_at (l ++ r) j = qh_at r (j - l.length) := by
  unfold qh_at
  rw [List.length_append]
  by_cases h1 : j - l.length < r.length
  · rw [if_pos h1, if_pos (by omega), List.getD_eq_getElem?_getD, List.getElem?_append_right h, ← List.getD_eq_getElem?_getD]
  · rw [if_neg h1, if_neg (by omega)]
theorem qh_atL {j : Nat} {l r : List Nat} (h : j < l.length) : qh_at (l ++ r) j = qh_at l j := by
  unfold qh_at
  rw [List.length_append, if_pos (by omega), if_pos h, xr_getD_append_left h]
theorem qh_ne {a b : Nat} (h : a ≠ b) (ha : a < 2 ^ 31) (hb : b < 2 ^ 31) : ¬ nI a = nI b := fun z => h ((nI_eq ha hb).mp z)
def qh_grpW : List Nat := [103, 114, 111, 117, 112]
theorem qh_grp {post : Int32 → Prop} {j : Nat} (hj : j < 100) (K : post (qh_at qh_grpW j)) : wpL_grp post () (nI j) := by
  match j, hj, K with
  | 0, _, K => exact br_t rfl K
  | 1, _, K => exact br_f (by decide) (br_t rfl K)
  | 2, _, K => exact br_f (by decide) (br_f (by decide) (br_t rfl K))
  | 3, _, K => exact br_f (by decide) (br_f (by decide) (br_f (by decide) (br_t rfl K)))
  | 4, _, K => exact br_f (by decide) (br_f (by decide) (br_f (by decide) (br_f (by decide) (br_t rfl K))))
  | n + 5, h, K =>
    have h2 : n + 5 < 2 ^ 31 := by omega
    exact br_f (qh_ne (b := 0) (by omega) h2 (by decide)) (br_f (qh_ne (b := 1) (by omega) h2 (by decide)) (br_f (qh_ne (b := 2) (by omega) h2 (by decide)) (br_f (qh_ne (b := 3) (by omega) h2 (by decide)) (br_f (qh_ne (b := 4) (by omega) h2 (by decide)) K))))
/-- the words by their numbers -/
def qh_w (b : Nat) : List Nat := if b = 0 then [100, 101, 102] else if b = 1 then [108, 101, 116] else if b = 2 then [99, 97, 116, 99, 111, 100, 101] else if b = 3 then [98, 101, 103, 105, 110, 103, 114, 111, 117, 112] else [101, 110, 100, 103, 114, 111, 117, 112]
theorem qh_w0 {post : Int32 → Prop} {j : Nat} (hj : j < 100) (K : post (qh_at (qh_w 0) j)) : wpL_word post () 0 (nI j) := by
  refine br_t rfl ?_
  match j, hj, K with
  | 0, _, K => exact br_t rfl K
  | 1, _, K => exact br_f (by decide) (br_t rfl K)
  | 2, _, K => exact br_f (by decide) (br_f (by decide) (br_t rfl K))
  | n + 3, h, K =>
    have h2 : n + 3 < 2 ^ 31 := by omega
    exact br_f (qh_ne (b := 0) (by omega) h2 (by decide)) (br_f (qh_ne (b := 1) (by omega) h2 (by decide)) (br_f (qh_ne (b := 2) (by omega) h2 (by decide)) K))
theorem qh_w1 {post : Int32 → Prop} {j : Nat} (hj : j < 100) (K : post (qh_at (qh_w 1) j)) : wpL_word post () 1 (nI j) := by
  refine br_f (by decide) (br_t rfl ?_)
  match j, hj, K with
  | 0, _, K => exact br_t rfl K
  | 1, _, K => exact br_f (by decide) (br_t rfl K)
  | 2, _, K => exact br_f (by decide) (br_f (by decide) (br_t rfl K))
  | n + 3, h, K =>
    have h2 : n + 3 < 2 ^ 31 := by omega
    exact br_f (qh_ne (b := 0) (by omega) h2 (by decide)) (br_f (qh_ne (b := 1) (by omega) h2 (by decide)) (br_f (qh_ne (b := 2) (by omega) h2 (by decide)) K))
theorem qh_w2 {post : Int32 → Prop} {j : Nat} (hj : j < 100) (K : post (qh_at (qh_w 2) j)) : wpL_word post () 2 (nI j) := by
  refine br_f (by decide) (br_f (by decide) (br_t rfl ?_))
  match j, hj, K with
  | 0, _, K => exact br_t rfl K
  | 1, _, K => exact br_f (by decide) (br_t rfl K)
  | 2, _, K => exact br_f (by decide) (br_f (by decide) (br_t rfl K))
  | 3, _, K => exact br_f (by decide) (br_f (by decide) (br_f (by decide) (br_t rfl K)))
  | 4, _, K => exact br_f (by decide) (br_f (by decide) (br_f (by decide) (br_f (by decide) (br_t rfl K))))
  | 5, _, K => exact br_f (by decide) (br_f (by decide) (br_f (by decide) (br_f (by decide) (br_f (by decide) (br_t rfl K)))))
  | 6, _, K => exact br_f (by decide) (br_f (by decide) (br_f (by decide) (br_f (by decide) (br_f (by decide) (br_f (by decide) (br_t rfl K))))))
  | n + 7, h, K =>
    have h2 : n + 7 < 2 ^ 31 := by omega
    exact br_f (qh_ne (b := 0) (by omega) h2 (by decide)) (br_f (qh_ne (b := 1) (by omega) h2 (by decide)) (br_f (qh_ne (b := 2) (by omega) h2 (by decide)) (br_f (qh_ne (b := 3) (by omega) h2 (by decide)) (br_f (qh_ne (b := 4) (by omega) h2 (by decide)) (br_f (qh_ne (b := 5) (by omega) h2 (by decide)) (br_f (qh_ne (b := 6) (by omega) h2 (by decide)) K))))))
theorem qh_w3 {post : Int32 → Prop} {j : Nat} (hj : j < 100) (K : post (qh_at (qh_w 3) j)) : wpL_word post () 3 (nI j) := by
  refine br_f (by decide) (br_f (by decide) (br_f (by decide) (br_t rfl ?_)))
  by_cases h5 : 5 ≤ j
  · have e : nI j - 5 = nI (j - 5) := pk_sub (b := 5) h5
    refine br_t (nI_le (a := 5) h5 (by omega)) ?_
    rw [e]
    refine qh_grp (by omega) ?_
    have e2 : qh_w 3 = [98, 101, 103, 105, 110] ++ qh_grpW := rfl
    rw [e2, qh_atA h5] at K
    exact K
  · refine br_f (nI_ge (b := 5) (by omega) (by decide)) ?_
    match j, h5, K with
    | 0, _, K => exact br_t rfl K
    | 1, _, K => exact br_f (by decide) (br_t rfl K)
    | 2, _, K => exact br_f (by decide) (br_f (by decide) (br_t rfl K))
    | 3, _, K => exact br_f (by decide) (br_f (by decide) (br_f (by decide) (br_t rfl K)))
    | 4, _, K => exact br_f (by decide) (br_f (by decide) (br_f (by decide) (br_f (by decide) K)))
    | n + 5, h, _ => omega
theorem qh_w4 {post : Int32 → Prop} {j : Nat} (hj : j < 100) (K : post (qh_at (qh_w 4) j)) : wpL_word post () 4 (nI j) := by
  refine br_f (by decide) (br_f (by decide) (br_f (by decide) (br_f (by decide) (br_t rfl ?_))))
  by_cases h3 : 3 ≤ j
  · have e : nI j - 3 = nI (j - 3) := pk_sub (b := 3) h3
    refine br_t (nI_le (a := 3) h3 (by omega)) ?_
    rw [e]
    refine qh_grp (by omega) ?_
    have e2 : qh_w 4 = [101, 110, 100] ++ qh_grpW := rfl
    rw [e2, qh_atA h3] at K
    exact K
  · refine br_f (nI_ge (b := 3) (by omega) (by decide)) ?_
    match j, h3, K with
    | 0, _, K => exact br_t rfl K
    | 1, _, K => exact br_f (by decide) (br_t rfl K)
    | 2, _, K => exact br_f (by decide) (br_f (by decide) K)
    | n + 3, h, _ => omega
/-- a command's number and payload out of the script's cells -/
def qh_i (t : Nat) (c1 : Int32) : Nat := if t < 6 then qh_m c1 4 else if c1 &&& 1 = 1 then 1 else 0
def qh_l (t : Nat) (c2 c3 c4 c5 : Int32) : List Nat := if t < 2 then [97 + qh_m c3 8, 97 + qh_m c4 8, 97 + qh_m c5 8].take (qh_m c2 4) else if t < 4 then [97 + qh_m c2 8] else [48 + qh_m c2 8]
theorem qh_ok {t : Nat} {c1 c2 c3 c4 c5 : Int32} (ht : t < 6) : qd_ok t (qh_i t c1) (qh_l t c2 c3 c4 c5) := by
  have h3 := qh_lt (x := c3) (d := 8) (by decide)
  have h4 := qh_lt (x := c4) (d := 8) (by decide)
  have h5 := qh_lt (x := c5) (d := 8) (by decide)
  have h2 := qh_lt (x := c2) (d := 8) (by decide)
  refine ⟨?_, fun z => ?_, fun z z2 => ?_, fun z => ?_⟩
  · unfold qh_i
    rw [if_pos ht]
    exact qh_lt (by decide)
  · unfold qh_l
    rw [if_pos z]
    refine ⟨?_, fun c hc => ?_⟩
    · rw [List.length_take]
      exact Nat.min_le_right _ _
    · have := List.mem_of_mem_take hc
      simp only [List.mem_cons, List.not_mem_nil, or_false] at this
      omega
  · unfold qh_l
    rw [if_neg (by omega), if_pos z2]
    exact ⟨_, rfl, by omega, by omega⟩
  · unfold qh_l
    rw [if_neg (by omega), if_neg (by omega)]
    exact ⟨_, rfl, h2⟩
theorem qh_tgt {post : Int32 → Prop} {i : Nat} (h : i < 4) (K : post (nI (qa_tgt i))) : wpL_tgt post () (nI i) := by
  match i, h, K with
  | 0, _, K => exact br_t rfl K
  | 1, _, K => exact br_f (by decide) (br_t rfl K)
  | 2, _, K => exact br_f (by decide) (br_f (by decide) (br_t rfl K))
  | 3, _, K => exact br_f (by decide) (br_f (by decide) (br_f (by decide) K))
  | n + 4, h, _ => omega
theorem qh_m2 (k : Nat) : nI (k + 2) + (-2) = nI k := by
  have e : nI (k + 2) = nI k + 2 := (nI_add k 2).symm
  rw [e, Int32.add_assoc, show (2 : Int32) + -2 = 0 from by decide, Int32.add_zero]
/-- behind the word -/
theorem qh_118 {post : Int32 → Prop} {c1 c2 c3 c4 c5 : Int32} {b r t : Nat} (hb : b < 3) (ht : t / 2 = b) (hr : r < 100) (K : post (qh_at (qh_w b ++ qd_arg t (qh_i t c1) (qh_l t c2 c3 c4 c5)) r)) : wL_ch_118 post c1 c2 c3 c4 c5 (nI r) (nI b) (nI (qh_w b).length) := by
  have hw7 : (qh_w b).length ≤ 7 := by
    match b, hb with
    | 0, _ => decide
    | 1, _ => decide
    | 2, _ => decide
    | n + 3, h => omega
  have hi : qh_i t c1 = qh_m c1 4 := by unfold qh_i; rw [if_pos (by omega)]
  by_cases hlt : r < (qh_w b).length
  · rw [qh_atL hlt] at K
    refine br_f (nI_ge hlt (by omega)) ?_
    match b, hb, K with
    | 0, _, K => exact qh_w0 hr K
    | 1, _, K => exact qh_w1 hr K
    | 2, _, K => exact qh_w2 hr K
    | n + 3, h, _ => omega
  · rw [qh_atA (by omega)] at K
    refine br_t (nI_le (by omega) (by omega)) (nm_r (pk_sub (by omega)) ?_)
    have hk : r - (qh_w b).length < 100 := by omega
    generalize r - (qh_w b).length = k at K hk
    match k, hk, K with
    | 0, _, K =>
      refine br_t rfl ?_
      have e : qh_at (qd_arg t (qh_i t c1) (qh_l t c2 c3 c4 c5)) 0 = nI 92 := by
        unfold qd_arg
        split
        · rfl
        · split <;> rfl
      rw [e] at K
      exact K
    | 1, _, K =>
      refine br_f (by decide) (br_t rfl ?_)
      by_cases h2 : b = 2
      · have e : qh_at (qd_arg t (qh_i t c1) (qh_l t c2 c3 c4 c5)) 1 = nI (qa_tgt (qh_m c1 4)) := by
          unfold qd_arg
          rw [if_neg (by omega), if_neg (by omega), hi]
          rfl
        rw [e] at K
        refine br_t (by rw [h2]; rfl) (qh_wm (d := 4) (by decide) (by decide) (qh_tgt (qh_lt (by decide)) K))
      · have e : qh_at (qd_arg t (qh_i t c1) (qh_l t c2 c3 c4 c5)) 1 = nI (112 + qh_m c1 4) := by
          unfold qd_arg
          rw [hi]
          by_cases hz : t < 2
          · rw [if_pos hz]; rfl
          · rw [if_neg hz, if_pos (by omega)]; rfl
        rw [e] at K
        refine br_f (qh_ne (b := 2) h2 (by omega) (by decide)) (qh_wm (d := 4) (by decide) (by decide) ?_)
        have e2 : (112 : Int32) + nI (qh_m c1 4) = nI (112 + qh_m c1 4) := nI_add 112 _
        rw [e2]
        exact K
    | k + 2, hk, K =>
      refine br_f (qh_ne (b := 0) (by omega) (by omega) (by decide)) (br_f (qh_ne (b := 1) (by omega) (by omega) (by decide)) (nm_r (qh_m2 k) ?_))
      match b, hb, ht with
      | 0, _, ht =>
        have e : qd_arg t (qh_i t c1) (qh_l t c2 c3 c4 c5) = 92 :: (112 + qh_i t c1) :: 123 :: (qh_l t c2 c3 c4 c5 ++ [125]) := by unfold qd_arg; rw [if_pos (by omega)]
        have el : qh_l t c2 c3 c4 c5 = [97 + qh_m c3 8, 97 + qh_m c4 8, 97 + qh_m c5 8].take (qh_m c2 4) := by unfold qh_l; rw [if_pos (by omega)]
        rw [e, el, qh_atS, qh_atS] at K
        have hL := qh_lt (x := c2) (d := 4) (by decide)
        refine br_t rfl (qh_wm (d := 4) (by decide) (by decide) ?_)
        generalize qh_m c2 4 = M at K hL
        match k, hk, K with
        | 0, _, K => exact br_t rfl K
        | k + 1, hk, K =>
          rw [qh_atS] at K
          refine br_f (qh_ne (b := 0) (by omega) (by omega) (by decide)) ?_
          have hc : ∀ x : Int32, (97 : Int32) + nI (qh_m x 8) = nI (97 + qh_m x 8) := fun x => nI_add 97 _
          have hlen : ([97 + qh_m c3 8, 97 + qh_m c4 8, 97 + qh_m c5 8].take M).length = M := by
            rw [List.length_take]
            simp only [List.length_cons, List.length_nil]
            omega
          by_cases hMk : M < k + 1
          · rw [qh_atA (by omega), hlen] at K
            refine br_t (nI_lt hMk (by omega)) ?_
            by_cases he : k = M
            · subst he
              rw [Nat.sub_self] at K
              exact br_t (nI_1 _).symm K
            · refine br_f (fun z => ?_) ?_
              · rw [nI_1] at z
                have := (nI_eq (by omega) (by omega)).mp z
                omega
              · obtain ⟨n, hn⟩ : ∃ n, k - M = n + 1 := ⟨k - M - 1, by omega⟩
                rw [hn] at K
                exact K
          · rw [qh_atL (by rw [hlen]; omega)] at K
            refine br_f (nI_nlt (by omega) (by omega)) ?_
            match k, hMk, K with
            | 0, hMk, K =>
              refine br_t rfl (qh_wm (d := 8) (by decide) (by decide) ?_)
              rw [hc]
              match M, hMk, hL, K with
              | 1, _, _, K => exact K
              | 2, _, _, K => exact K
              | 3, _, _, K => exact K
              | 0, h, _, _ => omega
              | n + 4, _, h, _ => omega
            | 1, hMk, K =>
              refine br_f (by decide) (br_t rfl (qh_wm (d := 8) (by decide) (by decide) ?_))
              rw [hc]
              match M, hMk, hL, K with
              | 2, _, _, K => exact K
              | 3, _, _, K => exact K
              | 0, h, _, _ => omega
              | 1, h, _, _ => omega
              | n + 4, _, h, _ => omega
            | 2, hMk, K =>
              refine br_f (by decide) (br_f (by decide) (qh_wm (d := 8) (by decide) (by decide) ?_))
              rw [hc]
              match M, hMk, hL, K with
              | 3, _, _, K => exact K
              | 0, h, _, _ => omega
              | 1, h, _, _ => omega
              | 2, h, _, _ => omega
              | n + 4, _, h, _ => omega
            | n + 3, h, _ => omega
      | 1, _, ht =>
        have e : qd_arg t (qh_i t c1) (qh_l t c2 c3 c4 c5) = 92 :: (112 + qh_i t c1) :: 32 :: qh_l t c2 c3 c4 c5 := by unfold qd_arg; rw [if_neg (by omega), if_pos (by omega)]
        have el : qh_l t c2 c3 c4 c5 = [97 + qh_m c2 8] := by unfold qh_l; rw [if_neg (by omega), if_pos (by omega)]
        rw [e, el, qh_atS, qh_atS] at K
        refine br_f (by decide) (br_t rfl ?_)
        match k, hk, K with
        | 0, _, K => exact br_t rfl K
        | 1, _, K =>
          refine br_f (by decide) (br_t rfl (qh_wm (d := 8) (by decide) (by decide) ?_))
          have e2 : (97 : Int32) + nI (qh_m c2 8) = nI (97 + qh_m c2 8) := nI_add 97 _
          rw [e2]
          exact K
        | k + 2, hk, K => exact br_f (qh_ne (b := 0) (by omega) (by omega) (by decide)) (br_f (qh_ne (b := 1) (by omega) (by omega) (by decide)) K)
      | 2, _, ht =>
        have e : qd_arg t (qh_i t c1) (qh_l t c2 c3 c4 c5) = 92 :: qa_tgt (qh_i t c1) :: qh_l t c2 c3 c4 c5 := by unfold qd_arg; rw [if_neg (by omega), if_neg (by omega)]
        have el : qh_l t c2 c3 c4 c5 = [48 + qh_m c2 8] := by unfold qh_l; rw [if_neg (by omega), if_neg (by omega)]
        rw [e, el, qh_atS, qh_atS] at K
        refine br_f (by decide) (br_f (by decide) ?_)
        match k, hk, K with
        | 0, _, K =>
          refine br_t rfl (qh_wm (d := 8) (by decide) (by decide) ?_)
          have e2 : (48 : Int32) + nI (qh_m c2 8) = nI (48 + qh_m c2 8) := nI_add 48 _
          rw [e2]
          exact K
        | k + 1, hk, K => exact br_f (qh_ne (b := 0) (by omega) (by omega) (by decide)) K
      | n + 3, h, _ => omega
theorem qh_101 {post : Int32 → Prop} {c1 c2 c3 c4 c5 : Int32} {r t : Nat} (ht : t < 6) (hr : r < 100) (K : post (qh_at (qh_w (t / 2) ++ qd_arg t (qh_i t c1) (qh_l t c2 c3 c4 c5)) r)) : wL_ch_101 post (nI t) c1 c2 c3 c4 c5 (nI r) := by
  have e : nI t >>> ((1 : Int32) &&& 31) = nI (t / 2) := pk_shrN (by omega) _ 1 (by decide)
  refine nm_r e ?_
  have h := qh_118 (post := post) (c1 := c1) (c2 := c2) (c3 := c3) (c4 := c4) (c5 := c5) (b := t / 2) (t := t) (by omega) rfl hr K
  by_cases h2 : t / 2 = 2
  · rw [h2] at h ⊢
    exact br_t rfl h
  · refine br_f (qh_ne (b := 2) h2 (by omega) (by decide)) ?_
    have h3 : (qh_w (t / 2)).length = 3 := by
      match t, ht, h2 with
      | 0, _, _ => rfl
      | 1, _, _ => rfl
      | 2, _, _ => rfl
      | 3, _, _ => rfl
      | 4, _, h => exact absurd rfl h
      | 5, _, h => exact absurd rfl h
      | n + 6, h, _ => omega
    rw [h3] at h
    exact h
theorem qh_ch {post : Int32 → Prop} {c1 c2 c3 c4 c5 : Int32} {j t : Nat} (ht : t < 8) (hj : j < 24) (K : post (qh_at (qd_txt t (qh_i t c1) (qh_l t c2 c3 c4 c5)) j)) : wpL_ch post () (nI t) c1 c2 c3 c4 c5 (nI j) := by
  by_cases h6 : t < 6
  · refine br_f (qh_ne (b := 6) (by omega) (by omega) (by decide)) (br_f (qh_ne (b := 7) (by omega) (by omega) (by decide)) ?_)
    have ew : qd_w0 t :: qd_wd t = qh_w (t / 2) := by
      match t, h6 with
      | 0, _ => rfl
      | 1, _ => rfl
      | 2, _ => rfl
      | 3, _ => rfl
      | 4, _ => rfl
      | 5, _ => rfl
      | n + 6, h => omega
    have ea : nI t &&& 1 = nI (t % 2) := pk_andN (by omega) 1 (by decide)
    by_cases hodd : t % 2 = 1
    · have ex : qd_txt t (qh_i t c1) (qh_l t c2 c3 c4 c5) = 92 :: 103 :: (qh_w (t / 2) ++ qd_arg t (qh_i t c1) (qh_l t c2 c3 c4 c5)) := by
        unfold qd_txt
        rw [if_neg (by omega), if_neg (by omega), if_pos hodd, ew]
      rw [ex] at K
      match j, hj, K with
      | 0, _, K => exact br_t rfl K
      | 1, _, K => exact br_f (by decide) (nm_e (br_t (by rw [ea, hodd]; rfl) (br_t (by decide) K)))
      | j + 2, hj, K =>
        rw [qh_atS, qh_atS] at K
        refine br_f (qh_ne (b := 0) (by omega) (by omega) (by decide)) (nm_r (nI_pred (j + 1)) (br_t (by rw [ea, hodd]; rfl) (br_f (qh_ne (b := 0) (by omega) (by omega) (by decide)) (nm_r (pk_m1 j) (qh_101 h6 (by omega) K)))))
    · have ex : qd_txt t (qh_i t c1) (qh_l t c2 c3 c4 c5) = 92 :: (qh_w (t / 2) ++ qd_arg t (qh_i t c1) (qh_l t c2 c3 c4 c5)) := by
        unfold qd_txt
        rw [if_neg (by omega), if_neg (by omega), if_neg hodd, ← ew]
        rfl
      rw [ex] at K
      match j, hj, K with
      | 0, _, K => exact br_t rfl K
      | j + 1, hj, K =>
        rw [qh_atS] at K
        refine br_f (qh_ne (b := 0) (by omega) (by omega) (by decide)) (nm_r (nI_pred j) (br_f ?_ (qh_101 h6 (by omega) K)))
        rw [ea, show t % 2 = 0 from by omega]
        decide
  · have hi : qh_i t c1 = if c1 &&& 1 = 1 then 1 else 0 := by unfold qh_i; rw [if_neg h6]
    have h12 : wL_ch_12 post (nI t) c1 (nI j) := by
      by_cases hc : c1 &&& 1 = 1
      · rw [if_pos hc] at hi
        rw [hi] at K
        refine br_t hc ?_
        match t, ht, h6, K with
        | 6, _, _, K =>
          match j, hj, K with
          | 0, _, K => exact br_t rfl (br_t rfl K)
          | j + 1, hj, K => exact br_f (qh_ne (b := 0) (by omega) (by omega) (by decide)) K
        | 7, _, _, K =>
          match j, hj, K with
          | 0, _, K => exact br_t rfl (br_f (by decide) K)
          | j + 1, hj, K => exact br_f (qh_ne (b := 0) (by omega) (by omega) (by decide)) K
        | n + 8, h, _, _ => omega
      · rw [if_neg hc] at hi
        rw [hi] at K
        refine br_f hc ?_
        match t, ht, h6, K with
        | 6, _, _, K =>
          match j, hj, K with
          | 0, _, K => exact br_t rfl K
          | j + 1, hj, K =>
            refine br_f (qh_ne (b := 0) (by omega) (by omega) (by decide)) (br_t rfl ?_)
            unfold wL_ch_61
            rw [nI_pred]
            have e6 : qd_txt 6 0 (qh_l 6 c2 c3 c4 c5) = 92 :: qh_w 3 := rfl
            rw [e6, qh_atS] at K
            exact qh_w3 (by omega) K
        | 7, _, _, K =>
          match j, hj, K with
          | 0, _, K => exact br_t rfl K
          | j + 1, hj, K =>
            refine br_f (qh_ne (b := 0) (by omega) (by omega) (by decide)) (br_f (by decide) ?_)
            unfold wL_ch_61
            rw [nI_pred]
            have e7 : qd_txt 7 0 (qh_l 7 c2 c3 c4 c5) = 92 :: qh_w 4 := rfl
            rw [e7, qh_atS] at K
            exact qh_w4 (by omega) K
        | n + 8, h, _, _ => omega
    by_cases e6 : t = 6
    · exact br_t (by rw [e6]; rfl) h12
    · exact br_f (qh_ne (b := 6) e6 (by omega) (by decide)) (br_t (by rw [show t = 7 from by omega]; rfl) h12)
theorem qh_len {t : Nat} {c1 c2 c3 c4 c5 : Int32} (ht : t < 8) : (qd_txt t (qh_i t c1) (qh_l t c2 c3 c4 c5)).length ≤ (if t = 7 then 9 else 12) := by
  by_cases h6 : t < 6
  · obtain ⟨o1, o2, o3, o4⟩ := qh_ok (t := t) (c1 := c1) (c2 := c2) (c3 := c3) (c4 := c4) (c5 := c5) h6
    have hl : (qh_l t c2 c3 c4 c5).length ≤ 3 ∧ (2 ≤ t → (qh_l t c2 c3 c4 c5).length = 1) := by
      rcases Nat.lt_or_ge t 2 with z | z
      · exact ⟨(o2 z).1, fun y => by omega⟩
      · rcases Nat.lt_or_ge t 4 with z2 | z2
        · obtain ⟨c, e, _⟩ := o3 z z2
          rw [e]
          exact ⟨(by show 1 ≤ 3; decide), fun _ => rfl⟩
        · obtain ⟨c, e, _⟩ := o4 z2
          rw [e]
          exact ⟨(by show 1 ≤ 3; decide), fun _ => rfl⟩
    rw [if_neg (by omega)]
    generalize qh_l t c2 c3 c4 c5 = l at hl
    generalize qh_i t c1 = i
    match t, h6, hl with
    | 0, _, hl => show (92 :: 100 :: ([101, 102] ++ (92 :: (112 + i) :: 123 :: (l ++ [125])))).length ≤ 12; simp only [List.length_cons, List.length_append, List.length_nil]; omega
    | 1, _, hl => show (92 :: 103 :: (100 :: [101, 102] ++ (92 :: (112 + i) :: 123 :: (l ++ [125])))).length ≤ 12; simp only [List.length_cons, List.length_append, List.length_nil]; omega
    | 2, _, hl => have := hl.2 (by decide); show (92 :: 108 :: ([101, 116] ++ (92 :: (112 + i) :: 32 :: l))).length ≤ 12; simp only [List.length_cons, List.length_append, List.length_nil]; omega
    | 3, _, hl => have := hl.2 (by decide); show (92 :: 103 :: (108 :: [101, 116] ++ (92 :: (112 + i) :: 32 :: l))).length ≤ 12; simp only [List.length_cons, List.length_append, List.length_nil]; omega
    | 4, _, hl => have := hl.2 (by decide); show (92 :: 99 :: ([97, 116, 99, 111, 100, 101] ++ (92 :: qa_tgt i :: l))).length ≤ 12; simp only [List.length_cons, List.length_append, List.length_nil]; omega
    | 5, _, hl => have := hl.2 (by decide); show (92 :: 103 :: (99 :: [97, 116, 99, 111, 100, 101] ++ (92 :: qa_tgt i :: l))).length ≤ 12; simp only [List.length_cons, List.length_append, List.length_nil]; omega
    | n + 6, h, _ => omega
  · have : t = 6 ∨ t = 7 := by omega
    rcases this with rfl | rfl
    · unfold qd_txt
      rw [if_pos rfl, if_neg (show ¬ 6 = 7 by decide)]
      split
      · show 1 ≤ 12
        decide
      · show 11 ≤ 12
        decide
    · unfold qd_txt
      rw [if_neg (show ¬ 7 = 6 by decide), if_pos rfl, if_pos rfl]
      split
      · show 1 ≤ 9
        decide
      · show 9 ≤ 9
        decide
end QH
