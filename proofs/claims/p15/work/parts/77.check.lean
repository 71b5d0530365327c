section QQ
variable {post : Int32 → Prop} {Ln kc ks : Nat} {xs : Nat → Int32} {gn gc : Int64} {pN : qn_T} {pC : qg_K} {nA ns : List (List Nat)} {QA Q : pm_Q} {f1 f2 f3 f4 f5 f6 f7 f8 f9 f10 f11 f12 f13 f14 : Int32} {a1 a2 a3 a4 a5 a6 a7 a8 a9 a10 a11 a12 a13 a14 a15 : Nat → Int32} {g1 g2 g3 g4 g5 g6 g7 g8 g9 g10 g11 g12 g13 g14 : Int32} {b1 b2 b3 b4 b5 b6 b7 b8 b9 b10 b11 b12 b13 b14 b15 : Nat → Int32}
theorem qq_ti {c : Nat} (hc : c < 128) (K : post (if qg_cx c < 4 then nI (qg_cx c) else -1)) : wpL_tgtIndex post () (nI c) := by
  unfold qg_cx at K
  by_cases h1 : c = 33
  · rw [if_pos h1, if_pos (by decide)] at K
    exact br_t (by rw [h1]; rfl) K
  · rw [if_neg h1] at K
    refine br_f (qh_ne (b := 33) h1 (by omega) (by decide)) ?_
    by_cases h2 : c = 34
    · rw [if_pos h2, if_pos (by decide)] at K
      exact br_t (by rw [h2]; rfl) K
    · rw [if_neg h2] at K
      refine br_f (qh_ne (b := 34) h2 (by omega) (by decide)) ?_
      by_cases h3 : c = 36
      · rw [if_pos h3, if_pos (by decide)] at K
        exact br_t (by rw [h3]; rfl) K
      · rw [if_neg h3] at K
        refine br_f (qh_ne (b := 36) h3 (by omega) (by decide)) ?_
        by_cases h4 : c = 37
        · rw [if_pos h4, if_pos (by decide)] at K
          exact br_t (by rw [h4]; rfl) K
        · rw [if_neg h4, if_neg (by decide)] at K
          exact br_f (qh_ne (b := 37) h4 (by omega) (by decide)) K
theorem qq_gC {i : Nat} (h : ql_C gc pC) (hi : i < 4) (K : post (nI (ql_e (pC i)))) : wpL_getC post () gc (nI i) := by
  show post (((gc >>> ((4 * nI i).toInt64 &&& 63)) &&& 15).toInt32)
  rw [(h i hi).1, lN_i]
  exact K
theorem qq_gN {i : Nat} (h : ql_N gn pN) (hi : i < 4) (K : post (nI (ql_f (pN i)))) : wpL_getN post () gn (nI i) := by
  show post (((gn >>> ((13 * nI i).toInt64 &&& 63)) &&& 8191).toInt32)
  rw [(h i hi).1, lN_i]
  exact K
theorem qq_and {a b : Nat} : nI a &&& nI b = nI (a &&& b) := by
  apply Int32.toBitVec_inj.mp
  show BitVec.ofNat 32 a &&& BitVec.ofNat 32 b = BitVec.ofNat 32 (a &&& b)
  exact (BitVec.ofNat_and).symm
theorem qq_bit {n i : Nat} : n &&& 2 ^ i = if n / 2 ^ i % 2 = 1 then 2 ^ i else 0 := by
  apply Nat.eq_of_testBit_eq
  intro j
  rw [Nat.testBit_and, Nat.testBit_two_pow]
  by_cases h : i = j
  · subst h
    rw [Nat.testBit_eq_decide_div_mod_eq]
    by_cases hb : n / 2 ^ i % 2 = 1
    · rw [if_pos hb, Nat.testBit_two_pow]
      simp [hb]
    · rw [if_neg hb, Nat.zero_testBit]
      simp [hb]
  · rw [decide_eq_false h, Bool.and_false]
    split
    · rw [Nat.testBit_two_pow, decide_eq_false h]
    · rw [Nat.zero_testBit]
theorem qq_671 {J : Int32 → Prop} {c e : Nat} (hB : qi_D ns Q (g1, g2, g3, g4, g5, g6, g7, g8, g9, g10, g11, g12, g13, g14, b1, b2, b3, b4, b5, b6, b7, b8, b9, b10, b11, b12, b13, b14, b15)) (hc : c < 128) (he : Q.1 c = e) (K : J (nI (c + 1))) : wL_law_671 post Ln xs J gn gc (nI c) (nI e) kc ks f1 f2 f3 f4 f5 f6 f7 f8 f9 f10 f11 f12 f13 f14 a1 a2 a3 a4 a5 a6 a7 a8 a9 a10 a11 a12 a13 a14 a15 g1 g2 g3 g4 g5 g6 g7 g8 g9 g10 g11 g12 g13 g14 b1 b2 b3 b4 b5 b6 b7 b8 b9 b10 b11 b12 b13 b14 b15 := by
  refine qp_cat hB hc (br_t (by rw [he]) (nm_r (nI_1 _) K))
theorem qq_618 (hA : qi_D nA QA (f1, f2, f3, f4, f5, f6, f7, f8, f9, f10, f11, f12, f13, f14, a1, a2, a3, a4, a5, a6, a7, a8, a9, a10, a11, a12, a13, a14, a15)) (hB : qi_D ns Q (g1, g2, g3, g4, g5, g6, g7, g8, g9, g10, g11, g12, g13, g14, b1, b2, b3, b4, b5, b6, b7, b8, b9, b10, b11, b12, b13, b14, b15)) (hC : ql_C gc pC) (hk : ∀ c, c < 128 → Q.1 c = qg_k pC QA.1 c) (K : ∃ fu705 : Nat, wL_law_705 post Ln xs gn (nI nA.length) (nI ns.length) kc ks f1 f2 f3 f4 f5 f6 f7 f8 f9 f10 f11 f12 f13 f14 a1 a2 a3 a4 a5 a6 a7 a8 a9 a10 a11 a12 a13 a14 a15 g1 g2 g3 g4 g5 g6 g7 g8 g9 g10 g11 g12 g13 g14 b1 b2 b3 b4 b5 b6 b7 b8 b9 b10 b11 b12 b13 b14 b15 fu705 0) : ∀ (N c : Nat), 128 < N + c → c ≤ 128 → wL_law_618 post Ln xs gn gc kc ks f1 f2 f3 f4 f5 f6 f7 f8 f9 f10 f11 f12 f13 f14 a1 a2 a3 a4 a5 a6 a7 a8 a9 a10 a11 a12 a13 a14 a15 g1 g2 g3 g4 g5 g6 g7 g8 g9 g10 g11 g12 g13 g14 b1 b2 b3 b4 b5 b6 b7 b8 b9 b10 b11 b12 b13 b14 b15 N (nI c) := by
  intro N
  induction N with
  | zero => intro c h1 h2; omega
  | succ N ih =>
    intro c h1 h2
    by_cases h : c = 128
    · subst h
      exact br_t (nI_le (Nat.le_refl 128) (by decide)) (qp_nc hA (qp_nc hB K))
    · have hc : c < 128 := by omega
      have next := ih (c + 1) (by omega) (by omega)
      have hkc := hk c hc
      unfold qg_k at hkc
      refine br_f (nI_ge (b := 128) hc (by decide)) (qp_cat hA hc (qq_ti hc ?_))
      by_cases hx : qg_cx c < 4
      · rw [if_pos hx] at hkc ⊢
        generalize qg_cx c = i at hx hkc
        refine br_f (nI_pos (by omega)) (qq_gC hC hx ?_)
        cases e : pC i with
        | none =>
          rw [e] at hkc
          exact br_t (by decide) (qq_671 hB hc hkc next)
        | some d =>
          rw [e] at hkc
          have hd := (hC i hx).2 d e
          have e8 : nI (8 + d) &&& 8 = nI 8 := by
            show nI (8 + d) &&& nI 8 = _
            rw [qq_and]
            have := qq_bit (n := 8 + d) (i := 3)
            rw [if_pos (by omega)] at this
            exact congrArg nI this
          have e7 : nI (8 + d) &&& 7 = nI d := by
            have : nI (8 + d) &&& 7 = nI ((8 + d) % 2 ^ 3) := pk_andN (by omega) 3 (by decide)
            rw [this]
            congr 1
            omega
          refine br_f (by show ¬ nI (8 + d) &&& 8 = 0; rw [e8]; decide) (qq_gC hC hx ?_)
          rw [e]
          exact nm_r e7 (qq_671 hB hc hkc next)
      · rw [if_neg hx] at hkc ⊢
        exact br_t (by decide) (qq_671 hB hc hkc next)
theorem qq_tok {j : Nat} (hM : Q.2.1 j = QA.2.1 j) (hj : j < 32) (p1 : Int32) : mt_t QA.2.1 (nI j) p1 = mt_t Q.2.1 (nI j) p1 := by
  rw [mt_in hj, mt_in hj, hM]
theorem qq_1034 {J J1 : Int32 → Prop} {j p : Nat} {x16 x17 : Int32} {la : Int32} (hA : qi_D nA QA (f1, f2, f3, f4, f5, f6, f7, f8, f9, f10, f11, f12, f13, f14, a1, a2, a3, a4, a5, a6, a7, a8, a9, a10, a11, a12, a13, a14, a15)) (hB : qi_D ns Q (g1, g2, g3, g4, g5, g6, g7, g8, g9, g10, g11, g12, g13, g14, b1, b2, b3, b4, b5, b6, b7, b8, b9, b10, b11, b12, b13, b14, b15)) (hM : Q.2.1 j = QA.2.1 j) (hj : j < 32) (K : J1 (nI (p + 1))) : ∀ (N i : Nat), 32 < N + i → i ≤ 32 → wL_law_1034 post Ln xs J J1 gn x16 x17 (nI j) (nI p) la kc ks f1 f2 f3 f4 f5 f6 f7 f8 f9 f10 f11 f12 f13 f14 a1 a2 a3 a4 a5 a6 a7 a8 a9 a10 a11 a12 a13 a14 a15 g1 g2 g3 g4 g5 g6 g7 g8 g9 g10 g11 g12 g13 g14 b1 b2 b3 b4 b5 b6 b7 b8 b9 b10 b11 b12 b13 b14 b15 N (nI i) := by
  intro N
  induction N with
  | zero => intro i h1 h2; omega
  | succ N ih =>
    intro i h1 h2
    refine br_c (fun _ => nm_r (nI_1 _) K) (fun _ => ?_)
    by_cases h : i = 32
    · subst h
      exact br_t (nI_le (Nat.le_refl 32) (by decide)) (nm_r (nI_1 _) K)
    · refine br_f (nI_ge (b := 32) (by omega) (by decide)) (qp_tk hA (qp_tk hB (br_t ?_ (nm_r (nI_1 _) (ih (i + 1) (by omega) (by omega))))))
      rw [qq_tok hM hj]
theorem qq_1000 {J : Int32 → Prop} {j : Nat} {x16 x17 : Int32} (hA : qi_D nA QA (f1, f2, f3, f4, f5, f6, f7, f8, f9, f10, f11, f12, f13, f14, a1, a2, a3, a4, a5, a6, a7, a8, a9, a10, a11, a12, a13, a14, a15)) (hB : qi_D ns Q (g1, g2, g3, g4, g5, g6, g7, g8, g9, g10, g11, g12, g13, g14, b1, b2, b3, b4, b5, b6, b7, b8, b9, b10, b11, b12, b13, b14, b15)) (hM : Q.2.1 j = QA.2.1 j) (hj : j < 32) (K : J (nI (j + 1))) : ∀ (N p : Nat), 2 < N + p → p ≤ 2 → wL_law_1000 post Ln xs J gn x16 x17 (nI j) kc ks f1 f2 f3 f4 f5 f6 f7 f8 f9 f10 f11 f12 f13 f14 a1 a2 a3 a4 a5 a6 a7 a8 a9 a10 a11 a12 a13 a14 a15 g1 g2 g3 g4 g5 g6 g7 g8 g9 g10 g11 g12 g13 g14 b1 b2 b3 b4 b5 b6 b7 b8 b9 b10 b11 b12 b13 b14 b15 N (nI p) := by
  intro N
  induction N with
  | zero => intro p h1 h2; omega
  | succ N ih =>
    intro p h1 h2
    by_cases h : p = 2
    · subst h
      exact br_t (nI_le (Nat.le_refl 2) (by decide)) (nm_r (nI_1 _) K)
    · refine br_f (nI_ge (b := 2) (by omega) (by decide)) (qp_tl hA (qp_tl hB (br_t ?_ ⟨33, qq_1034 hA hB hM hj (ih (p + 1) (by omega) (by omega)) 33 0 (by decide) (by decide)⟩)))
      rw [qq_tok hM hj]
theorem qq_779n {J : Int32 → Prop} {j : Nat} (hA : qi_D nA QA (f1, f2, f3, f4, f5, f6, f7, f8, f9, f10, f11, f12, f13, f14, a1, a2, a3, a4, a5, a6, a7, a8, a9, a10, a11, a12, a13, a14, a15)) (hB : qi_D ns Q (g1, g2, g3, g4, g5, g6, g7, g8, g9, g10, g11, g12, g13, g14, b1, b2, b3, b4, b5, b6, b7, b8, b9, b10, b11, b12, b13, b14, b15)) (hj : j < ns.length) (hM : Q.2.1 j = QA.2.1 j) (K : J (nI (j + 1))) : wL_law_779 post Ln xs J gn (nI nA.length) (nI ns.length) (nI j) (-1) kc ks f1 f2 f3 f4 f5 f6 f7 f8 f9 f10 f11 f12 f13 f14 a1 a2 a3 a4 a5 a6 a7 a8 a9 a10 a11 a12 a13 a14 a15 g1 g2 g3 g4 g5 g6 g7 g8 g9 g10 g11 g12 g13 g14 b1 b2 b3 b4 b5 b6 b7 b8 b9 b10 b11 b12 b13 b14 b15 := by
  have hk : ns.length ≤ 32 := hB.1.1.1.1.2.1
  have hkA : nA.length ≤ 32 := hA.1.1.1.1.2.1
  refine br_t (by decide) ?_
  by_cases h : nA.length ≤ j
  · have h0 : QA.2.1 j = pm_m0 := by
      have hI := hA.1.1
      obtain ⟨C, M, q⟩ := QA
      exact hI.2.2.1.2.2 j h
    rw [h0] at hM
    exact br_t (nI_le h (by omega)) (qp_mk hB hj (br_t (by rw [hM]; rfl) (qp_mv hB hj (br_t (by rw [hM]; rfl) (nm_r (nI_1 _) K)))))
  · have hjA : j < nA.length := by omega
    exact br_f (nI_ge hjA (by omega)) (qp_mk hA hjA (qp_mk hB hj (br_t (by rw [hM]) (qp_mv hA hjA (qp_mv hB hj (br_t (by rw [hM]) ⟨3, qq_1000 hA hB hM (by omega) K 3 0 (by decide) (by decide)⟩))))))
theorem qq_f {p : Nat} {b : Bool} (hp : p < 2048) : nI (ql_f (some (p, b))) &&& 2047 = nI p ∧ (nI (ql_f (some (p, b))) &&& 2048 = 0 ↔ b = false) ∧ ¬ nI (ql_f (some (p, b))) &&& 4096 = 0 := by
  have e : ql_f (some (p, b)) = 4096 + (if b = true then 2048 else 0) + p := rfl
  have e11 : nI (ql_f (some (p, b))) &&& 2047 = nI (ql_f (some (p, b)) % 2 ^ 11) := pk_andN (by rw [e]; split <;> omega) 11 (by decide)
  have b11 := qq_bit (n := ql_f (some (p, b))) (i := 11)
  have b12 := qq_bit (n := ql_f (some (p, b))) (i := 12)
  have a11 : nI (ql_f (some (p, b))) &&& 2048 = nI (ql_f (some (p, b)) &&& 2 ^ 11) := qq_and (b := 2048)
  have a12 : nI (ql_f (some (p, b))) &&& 4096 = nI (ql_f (some (p, b)) &&& 2 ^ 12) := qq_and (b := 4096)
  rw [a11, a12, e11, b11, b12]
  cases b with
  | false =>
    have e' : ql_f (some (p, false)) = 4096 + p := rfl
    rw [e', if_neg (by omega), if_pos (by omega)]
    exact ⟨by congr 1; omega, ⟨fun _ => rfl, fun _ => rfl⟩, by decide⟩
  | true =>
    have e' : ql_f (some (p, true)) = 6144 + p := rfl
    rw [e', if_pos (by omega), if_pos (by omega)]
    exact ⟨by congr 1; omega, ⟨fun z => absurd z (by decide), fun z => (nomatch z)⟩, by decide⟩
theorem qq_779p {J : Int32 → Prop} {j i p : Nat} {b : Bool} (hL : Ln ≤ 260) (hN : ql_N gn pN) (hB : qi_D ns Q (g1, g2, g3, g4, g5, g6, g7, g8, g9, g10, g11, g12, g13, g14, b1, b2, b3, b4, b5, b6, b7, b8, b9, b10, b11, b12, b13, b14, b15)) (hi : i < 4) (hj : j < ns.length) (hpN : pN i = some (p, b)) (hM : some (Q.2.1 j) = qo_g Ln xs pN i) (K : J (nI (j + 1))) : wL_law_779 post Ln xs J gn (nI nA.length) (nI ns.length) (nI j) (nI i) kc ks f1 f2 f3 f4 f5 f6 f7 f8 f9 f10 f11 f12 f13 f14 a1 a2 a3 a4 a5 a6 a7 a8 a9 a10 a11 a12 a13 a14 a15 g1 g2 g3 g4 g5 g6 g7 g8 g9 g10 g11 g12 g13 g14 b1 b2 b3 b4 b5 b6 b7 b8 b9 b10 b11 b12 b13 b14 b15 := by
  have hk : ns.length ≤ 32 := hB.1.1.1.1.2.1
  have hp : p < 2048 := (hN i hi).2 _ hpN
  obtain ⟨y1, y2, y3⟩ := qq_f (p := p) (b := b) hp
  have ep2 : nI p + 2 = nI (p + 2) := nI_add p 2
  refine br_f (nI_pos (by omega)) (qq_gN hN hi ?_)
  rw [hpN]
  refine nm_r y1 ?_
  unfold qo_g at hM
  rw [hpN] at hM
  cases b with
  | false =>
    have hM' : Q.2.1 j = (2, 0, [], (qh_l 1 (qj_c Ln xs (p + 2)) (qj_c Ln xs (p + 3)) (qj_c Ln xs (p + 4)) (qj_c Ln xs (p + 5))).map (fun c => 640 + c)) := Option.some.inj hM
    have el : qh_l 1 (qj_c Ln xs (p + 2)) (qj_c Ln xs (p + 3)) (qj_c Ln xs (p + 4)) (qj_c Ln xs (p + 5)) = [97 + qh_m (qj_c Ln xs (p + 3)) 8, 97 + qh_m (qj_c Ln xs (p + 4)) 8, 97 + qh_m (qj_c Ln xs (p + 5)) 8].take (qh_m (qj_c Ln xs (p + 2)) 4) := rfl
    have hm4 := qh_lt (x := qj_c Ln xs (p + 2)) (d := 4) (by decide)
    have hlen : (qh_l 1 (qj_c Ln xs (p + 2)) (qj_c Ln xs (p + 3)) (qj_c Ln xs (p + 4)) (qj_c Ln xs (p + 5))).length = qh_m (qj_c Ln xs (p + 2)) 4 := by
      rw [el, List.length_take]
      simp only [List.length_cons, List.length_nil]
      omega
    have t0 : mt_t Q.2.1 (nI j) 0 = some [] := by
      rw [mt_in (by omega), hM', if_pos rfl, if_pos rfl]
    have t1 : mt_t Q.2.1 (nI j) 1 = some ((qh_l 1 (qj_c Ln xs (p + 2)) (qj_c Ln xs (p + 3)) (qj_c Ln xs (p + 4)) (qj_c Ln xs (p + 5))).map (fun c => 640 + c)) := by
      rw [mt_in (by omega), hM', if_pos rfl, if_neg (by decide), if_pos rfl]
    refine br_t (y2.mpr rfl) ?_
    rw [ep2]
    refine qj_cell hL (by omega) (qh_wm (d := 4) (by decide) (by decide) (qp_mk hB hj (br_t (by rw [hM']; rfl) (qp_mv hB hj (br_t (by rw [hM']; rfl) (qp_tl hB (br_t (by rw [t0]; rfl) (qp_tl hB (br_t ?_ ⟨4, ?_⟩)))))))))
    · rw [t1]
      show nI (List.map _ _).length = _
      rw [List.length_map, hlen]
    · -- the letters one by one
      have tok : ∀ x, x < qh_m (qj_c Ln xs (p + 2)) 4 → mt_k (mt_t Q.2.1 (nI j) 1) (nI x) = 737 + nI (qh_m (qj_c Ln xs (p + 3 + x)) 8) := fun x hx => by
        rw [t1, mt_k_in (by rw [List.length_map, hlen]; exact hx) (by rw [List.length_map, hlen]; omega)]
        have e2 : (737 : Int32) + nI (qh_m (qj_c Ln xs (p + 3 + x)) 8) = nI (737 + qh_m (qj_c Ln xs (p + 3 + x)) 8) := nI_add 737 _
        rw [e2]
        congr 1
        rw [el]
        have hx3 : x < 3 := by omega
        generalize qh_m (qj_c Ln xs (p + 2)) 4 = M at hx hm4
        match x, hx3, hx with
        | 0, _, hx =>
          match M, hx, hm4 with
          | 1, _, _ => show 640 + (97 + qh_m (qj_c Ln xs (p + 3)) 8) = 737 + qh_m (qj_c Ln xs (p + 3)) 8; omega
          | 2, _, _ => show 640 + (97 + qh_m (qj_c Ln xs (p + 3)) 8) = 737 + qh_m (qj_c Ln xs (p + 3)) 8; omega
          | 3, _, _ => show 640 + (97 + qh_m (qj_c Ln xs (p + 3)) 8) = 737 + qh_m (qj_c Ln xs (p + 3)) 8; omega
          | 0, h, _ => omega
          | n + 4, _, h => omega
        | 1, _, hx =>
          match M, hx, hm4 with
          | 2, _, _ => show 640 + (97 + qh_m (qj_c Ln xs (p + 4)) 8) = 737 + qh_m (qj_c Ln xs (p + 4)) 8; omega
          | 3, _, _ => show 640 + (97 + qh_m (qj_c Ln xs (p + 4)) 8) = 737 + qh_m (qj_c Ln xs (p + 4)) 8; omega
          | 0, h, _ => omega
          | 1, h, _ => omega
          | n + 4, _, h => omega
        | 2, _, hx =>
          match M, hx, hm4 with
          | 3, _, _ => show 640 + (97 + qh_m (qj_c Ln xs (p + 5)) 8) = 737 + qh_m (qj_c Ln xs (p + 5)) 8; omega
          | 0, h, _ => omega
          | 1, h, _ => omega
          | 2, h, _ => omega
          | n + 4, _, h => omega
        | n + 3, h, _ => omega
      have loop : ∀ (N x : Nat), qh_m (qj_c Ln xs (p + 2)) 4 < N + x → x ≤ qh_m (qj_c Ln xs (p + 2)) 4 → wL_law_908 post Ln xs J gn (nI nA.length) (nI ns.length) (nI j) (nI p) (nI (qh_m (qj_c Ln xs (p + 2)) 4)) kc ks f1 f2 f3 f4 f5 f6 f7 f8 f9 f10 f11 f12 f13 f14 a1 a2 a3 a4 a5 a6 a7 a8 a9 a10 a11 a12 a13 a14 a15 g1 g2 g3 g4 g5 g6 g7 g8 g9 g10 g11 g12 g13 g14 b1 b2 b3 b4 b5 b6 b7 b8 b9 b10 b11 b12 b13 b14 b15 N (nI x) := by
        intro N
        induction N with
        | zero => intro x h1 h2; omega
        | succ N ih =>
          intro x h1 h2
          by_cases h : x = qh_m (qj_c Ln xs (p + 2)) 4
          · exact br_t (by rw [← h]; exact nI_le (Nat.le_refl _) (by omega)) (nm_r (nI_1 _) K)
          · have e3 : nI p + 3 + nI x = nI (p + 3 + x) := by
              have : nI p + 3 = nI (p + 3) := nI_add p 3
              rw [this, nI_add]
            refine br_f (nI_ge (by omega) (by omega)) (qp_tk hB ?_)
            rw [e3]
            exact qj_cell hL (by omega) (qh_wm (d := 8) (by decide) (by decide) (br_t (tok x (by omega)) (nm_r (nI_1 _) (ih (x + 1) (by omega) (by omega)))))
      exact loop 4 0 (by omega) (Nat.zero_le _)
  | true =>
    have hM' : Q.2.1 j = (3, 640 + (97 + qh_m (qj_c Ln xs (p + 2)) 8), [], []) := Option.some.inj hM
    refine br_f (fun z => nomatch y2.mp z) (qp_mk hB hj (br_t (by rw [hM']; rfl) (qp_mv hB hj ?_)))
    rw [ep2]
    refine qj_cell hL (by omega) (qh_wm (d := 8) (by decide) (by decide) (br_t ?_ (nm_r (nI_1 _) K)))
    rw [hM']
    show nI (640 + (97 + qh_m (qj_c Ln xs (p + 2)) 8)) = 737 + nI (qh_m (qj_c Ln xs (p + 2)) 8)
    have e2 : (737 : Int32) + nI (qh_m (qj_c Ln xs (p + 2)) 8) = nI (737 + qh_m (qj_c Ln xs (p + 2)) 8) := nI_add 737 _
    rw [e2]
    congr 1
    omega
theorem qq_705 (hL : Ln ≤ 260) (h1 : post 1) (hN : ql_N gn pN) (hA : qi_D nA QA (f1, f2, f3, f4, f5, f6, f7, f8, f9, f10, f11, f12, f13, f14, a1, a2, a3, a4, a5, a6, a7, a8, a9, a10, a11, a12, a13, a14, a15)) (hB : qi_D ns Q (g1, g2, g3, g4, g5, g6, g7, g8, g9, g10, g11, g12, g13, g14, b1, b2, b3, b4, b5, b6, b7, b8, b9, b10, b11, b12, b13, b14, b15)) (hZ : ∀ j, j < 32 → Q.2.1 j = qg_m (qo_g Ln xs pN) QA.2.1 ns j) : ∀ (N j : Nat), 32 < N + j → j ≤ ns.length → wL_law_705 post Ln xs gn (nI nA.length) (nI ns.length) kc ks f1 f2 f3 f4 f5 f6 f7 f8 f9 f10 f11 f12 f13 f14 a1 a2 a3 a4 a5 a6 a7 a8 a9 a10 a11 a12 a13 a14 a15 g1 g2 g3 g4 g5 g6 g7 g8 g9 g10 g11 g12 g13 g14 b1 b2 b3 b4 b5 b6 b7 b8 b9 b10 b11 b12 b13 b14 b15 N (nI j) := by
  have hk : ns.length ≤ 32 := hB.1.1.1.1.2.1
  have hw : ∀ v, v ∈ ns → ∀ c, c ∈ v → c < 128 := fun v hv => (hB.1.1.1.1.2.2.2 v hv).2.2
  intro N
  induction N with
  | zero => intro j h1 h2; omega
  | succ N ih =>
    intro j h2 h3
    by_cases h : j = ns.length
    · subst h
      exact br_c (fun _ => h1) (fun _ => br_t (nI_le (Nat.le_refl _) (by omega)) h1)
    · have hj : j < ns.length := by omega
      have next := ih (j + 1) (by omega) (by omega)
      have hz := hZ j (by omega)
      unfold qg_m at hz
      refine br_f (nI_ge (b := 40) (by omega) (by decide)) (br_f (nI_ge hj (by omega)) (qp_nl hB hj ?_))
      by_cases hl : (ns.getD j []).length = 1
      · obtain ⟨c, hc⟩ := List.length_eq_one_iff.mp hl
        have hc128 : c < 128 := by
          have hm : ns.getD j [] ∈ ns := by
            rw [List.getD_eq_getElem?_getD, List.getElem?_eq_getElem hj]
            exact List.getElem_mem _
          exact hw _ hm c (by rw [hc]; exact List.mem_singleton.mpr rfl)
        refine br_t (by rw [hl]; rfl) (qp_nch hB hj hc ?_)
        rw [hc] at hz
        by_cases c1 : c < 112
        · rw [if_neg (fun z => by have := qg_ix_eq z; have := List.cons.inj this; omega)] at hz
          exact br_t (nI_lt (b := 112) c1 (by decide)) (qq_779n hA hB hj hz next)
        · refine br_f (nI_nlt (b := 112) (by omega) (by omega)) ?_
          by_cases c2 : 115 < c
          · rw [if_neg (fun z => by have h5 := qg_ix_eq z; have := List.cons.inj h5; omega)] at hz
            exact br_t (nI_lt (a := 115) c2 (by omega)) (qq_779n hA hB hj hz next)
          · have ei : nI c - 112 = nI (c - 112) := pk_sub (b := 112) (by omega)
            have hi : c - 112 < 4 := by omega
            have ecx : qg_ix [c] = c - 112 := by
              have := qg_ix_of hi
              rw [show 112 + (c - 112) = c from by omega] at this
              exact this
            rw [ecx, if_pos hi] at hz
            refine br_f (nI_nlt (a := 115) (by omega) (by decide)) ?_
            rw [ei]
            refine qq_gN hN hi ?_
            cases e : pN (c - 112) with
            | none =>
              have hg : qo_g Ln xs pN (c - 112) = none := by unfold qo_g; rw [e]; rfl
              rw [hg] at hz
              exact br_t (by decide) (qq_779n hA hB hj hz next)
            | some v =>
              obtain ⟨p, b⟩ := v
              have hp : p < 2048 := (hN _ hi).2 _ e
              obtain ⟨m, hg⟩ : ∃ m, qo_g Ln xs pN (c - 112) = some m := by unfold qo_g; rw [e]; exact ⟨_, rfl⟩
              rw [hg] at hz
              exact br_f (qq_f hp).2.2 (nm_e (qq_779p (nA := nA) hL hN hB hi hj e (by rw [hg]; exact congrArg some hz) next))
      · have hx : ¬ qg_ix (ns.getD j []) < 4 := fun z => hl (by have := congrArg List.length (qg_ix_eq z); exact this)
        rw [if_neg hx] at hz
        have hlb : (ns.getD j []).length < 2 ^ 31 := by
          have hm : ns.getD j [] ∈ ns := by
            rw [List.getD_eq_getElem?_getD, List.getElem?_eq_getElem hj]
            exact List.getElem_mem _
          have := (hB.1.1.1.1.2.2.2 _ hm).2.1
          omega
        exact br_f (qh_ne (b := 1) hl hlb (by decide)) (qq_779n hA hB hj hz next)
end QQ
