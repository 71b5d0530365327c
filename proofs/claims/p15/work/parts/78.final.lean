section QR
variable {post : Int32 → Prop} {Ln kc ks : Nat} {xs : Nat → Int32} {gn gc : Int64} {pN : qn_T} {pC : qg_K} {La Lb : List Nat} {f1 f2 f3 f4 f5 f6 f7 f8 f9 f10 f11 f12 f13 f14 : Int32} {a1 a2 a3 a4 a5 a6 a7 a8 a9 a10 a11 a12 a13 a14 a15 : Nat → Int32} {g1 g2 g3 g4 g5 g6 g7 g8 g9 g10 g11 g12 g13 g14 : Int32} {b1 b2 b3 b4 b5 b6 b7 b8 b9 b10 b11 b12 b13 b14 b15 : Nat → Int32}
theorem qr_587 (hL : Ln ≤ 260) (h1 : post 1) (hN : ql_N gn pN) (hC : ql_C gc pC) (hA : qi_F La (f1, f2, f3, f4, f5, f6, f7, f8, f9, f10, f11, f12, f13, f14, a1, a2, a3, a4, a5, a6, a7, a8, a9, a10, a11, a12, a13, a14, a15)) (hB : qi_F Lb (g1, g2, g3, g4, g5, g6, g7, g8, g9, g10, g11, g12, g13, g14, b1, b2, b3, b4, b5, b6, b7, b8, b9, b10, b11, b12, b13, b14, b15)) (hZ : qm_Z La Lb (qo_g Ln xs pN) pC) : wL_law_587 post Ln xs gn gc kc ks f1 f2 f3 f4 f5 f6 f7 f8 f9 f10 f11 f12 f13 f14 a1 a2 a3 a4 a5 a6 a7 a8 a9 a10 a11 a12 a13 a14 a15 g1 g2 g3 g4 g5 g6 g7 g8 g9 g10 g11 g12 g13 g14 b1 b2 b3 b4 b5 b6 b7 b8 b9 b10 b11 b12 b13 b14 b15 := by
  unfold wL_law_587
  rcases hZ with hb | ⟨⟨nA, QA, hg⟩, hb⟩ | ⟨nA, QA, ns, Q, hg, hg2, hp, hz1, hz2⟩
  · refine qi_runB hA hb (fun r k u' h2 h100 hs => ?_)
    obtain ⟨f1, f2, f3, f4, f5, f6, f7, f8, f9, f10, f11, f12, f13, f14, a1, a2, a3, a4, a5, a6, a7, a8, a9, a10, a11, a12, a13, a14, a15⟩ := u'
    refine qi_run0 hB (fun r' u'' => ?_)
    obtain ⟨g1, g2, g3, g4, g5, g6, g7, g8, g9, g10, g11, g12, g13, g14, b1, b2, b3, b4, b5, b6, b7, b8, b9, b10, b11, b12, b13, b14, b15⟩ := u''
    exact hs _ (br_f (qh_ne (b := 1) (by omega) (by omega) (by decide)) h1)
  · refine qi_runG hA hg (fun r u' hD => ?_)
    obtain ⟨f1, f2, f3, f4, f5, f6, f7, f8, f9, f10, f11, f12, f13, f14, a1, a2, a3, a4, a5, a6, a7, a8, a9, a10, a11, a12, a13, a14, a15⟩ := u'
    refine qi_runB hB hb (fun r k u'' h2 h100 hs => ?_)
    obtain ⟨g1, g2, g3, g4, g5, g6, g7, g8, g9, g10, g11, g12, g13, g14, b1, b2, b3, b4, b5, b6, b7, b8, b9, b10, b11, b12, b13, b14, b15⟩ := u''
    exact qp_st hD (br_t rfl (hs _ (br_f (qh_ne (b := 1) (by omega) (by omega) (by decide)) h1)))
  · refine qi_runG hA hg (fun r u' hD => ?_)
    obtain ⟨f1, f2, f3, f4, f5, f6, f7, f8, f9, f10, f11, f12, f13, f14, a1, a2, a3, a4, a5, a6, a7, a8, a9, a10, a11, a12, a13, a14, a15⟩ := u'
    refine qi_runG hB hg2 (fun r u'' hD2 => ?_)
    obtain ⟨g1, g2, g3, g4, g5, g6, g7, g8, g9, g10, g11, g12, g13, g14, b1, b2, b3, b4, b5, b6, b7, b8, b9, b10, b11, b12, b13, b14, b15⟩ := u''
    exact qp_st hD (br_t rfl (qp_st hD2 (br_t rfl ⟨129, qq_618 hD hD2 hC hz2 ⟨33, qq_705 hL h1 hN hD hD2 hz1 33 0 (by decide) (Nat.zero_le _)⟩ 129 0 (by decide) (by decide)⟩)))
theorem qr_F {u : St1} (h : ci_SX 100 u) : qi_F [] u := by
  obtain ⟨cat, nl, ch, mm, hc, hN, hM, rfl⟩ := h
  refine ⟨⟨by decide, fun c hc => (nomatch hc)⟩, mm, (fun _ => 0), (fun _ => 0), (fun _ => 0), 0, 0, 0, ?_⟩
  exact ⟨_, _, _, _, _, _, _, _, _, _, _, _, _, rfl, fun j hj => absurd hj (Nat.not_lt_zero _), ⟨(by show 0 < 100; decide), fun _ => ⟨⟨[], rfl, rfl⟩, rfl, trivial⟩⟩, fun j hj => absurd hj (Nat.not_lt_zero _), hc, hN.1, ii_MX hM, trivial, trivial⟩
theorem qr_65 {pg n1 n2 : Nat} (hL : Ln ≤ 260) (h1 : post 1) (hpg : pg ≤ 1) (hn1 : n1 ≤ 2) (hn2 : n2 ≤ 2) (hA : qi_F [] (f1, f2, f3, f4, f5, f6, f7, f8, f9, f10, f11, f12, f13, f14, a1, a2, a3, a4, a5, a6, a7, a8, a9, a10, a11, a12, a13, a14, a15)) (hB : qi_F [] (g1, g2, g3, g4, g5, g6, g7, g8, g9, g10, g11, g12, g13, g14, b1, b2, b3, b4, b5, b6, b7, b8, b9, b10, b11, b12, b13, b14, b15)) : wL_law_65 post Ln xs (nI pg) (nI n1) (nI n2) kc ks f1 f2 f3 f4 f5 f6 f7 f8 f9 f10 f11 f12 f13 f14 a1 a2 a3 a4 a5 a6 a7 a8 a9 a10 a11 a12 a13 a14 a15 g1 g2 g3 g4 g5 g6 g7 g8 g9 g10 g11 g12 g13 g14 b1 b2 b3 b4 b5 b6 b7 b8 b9 b10 b11 b12 b13 b14 b15 := by
  have h25 := qh_lt (x := qj_c Ln xs 3) (d := 25) (by decide)
  refine qj_cell (p := 3) hL (by decide) (qh_wm (d := 25) (by decide) (by decide) ⟨38, ?_⟩)
  have h := qo_loop (Ln := Ln) (xs := xs) (post := post) (pg := pg) (n1 := n1) (n2 := n2) (n3 := qh_m (qj_c Ln xs 3) 25) (kc := kc) (ks := ks) hL hn1 hn2 (by omega) hpg (fun La Lb gn gc pN pC f1 f2 f3 f4 f5 f6 f7 f8 f9 f10 f11 f12 f13 f14 a1 a2 a3 a4 a5 a6 a7 a8 a9 a10 a11 a12 a13 a14 a15 g1 g2 g3 g4 g5 g6 g7 g8 g9 g10 g11 g12 g13 g14 b1 b2 b3 b4 b5 b6 b7 b8 b9 b10 b11 b12 b13 b14 b15 k1 k2 k3 k4 k5 => qr_587 hL h1 k1 k2 k3 k4 k5) 38 0 4 0 0 0 0 0 0 [] [] (fun _ => none) (fun _ => none) _ _ _ _ _ _ _ _ _ _ _ _ _ _ _ _ _ _ _ _ _ _ _ _ _ _ _ _ _ _ _ _ _ _ _ _ _ _ _ _ _ _ _ _ _ _ _ _ _ _ _ _ _ _ _ _ _ _ ⟨by decide, by decide, ⟨by decide, by decide, fun _ => Nat.zero_le _, fun z => by omega, fun z => by omega, fun z => by omega, fun z => by omega, fun _ => rfl, fun z => by omega⟩, rfl, Nat.le_refl _, by decide, ql_N0, ql_C0, hA, hB, fun _ => ⟨rfl, Or.inr ⟨_, _, qf_G0⟩, rfl, rfl⟩, fun z => by omega, fun z => by omega⟩ (by decide)
  exact h
theorem qr_36 {pg : Nat} (hL : Ln ≤ 260) (h1 : post 1) (hpg : pg ≤ 1) (hA : qi_F [] (f1, f2, f3, f4, f5, f6, f7, f8, f9, f10, f11, f12, f13, f14, a1, a2, a3, a4, a5, a6, a7, a8, a9, a10, a11, a12, a13, a14, a15)) (hB : qi_F [] (g1, g2, g3, g4, g5, g6, g7, g8, g9, g10, g11, g12, g13, g14, b1, b2, b3, b4, b5, b6, b7, b8, b9, b10, b11, b12, b13, b14, b15)) : wL_law_36 post Ln xs (nI pg) kc ks f1 f2 f3 f4 f5 f6 f7 f8 f9 f10 f11 f12 f13 f14 a1 a2 a3 a4 a5 a6 a7 a8 a9 a10 a11 a12 a13 a14 a15 g1 g2 g3 g4 g5 g6 g7 g8 g9 g10 g11 g12 g13 g14 b1 b2 b3 b4 b5 b6 b7 b8 b9 b10 b11 b12 b13 b14 b15 := by
  have h3 := qh_lt (x := qj_c Ln xs 0) (d := 3) (by decide)
  have h3b := qh_lt (x := qj_c Ln xs 2) (d := 3) (by decide)
  refine qj_cell (p := 0) hL (by decide) (qh_wm (d := 3) (by decide) (by decide) ?_)
  by_cases hp : pg = 0
  · exact br_t (by rw [hp]; rfl) (qr_65 (n2 := 0) hL h1 hpg (by omega) (by decide) hA hB)
  · exact br_f (nI_ne0 (by omega) (by omega)) (qj_cell (p := 2) hL (by decide) (qh_wm (d := 3) (by decide) (by decide) (qr_65 hL h1 hpg (by omega) (by omega) hA hB)))
end QR
theorem i_vc (xs : Nat → Int32) (L : Nat) (hL : L ≤ 260) : wpL_law (fun r => r = 1) L xs := by
  refine ⟨15, 4310, by decide, by decide, ci_initX (k0 := 100) (fun u hu => ?_)⟩
  have e100 : ci_lim 100 = 100 := by decide
  rw [e100] at hu
  have hF := qr_F hu
  obtain ⟨f1, f2, f3, f4, f5, f6, f7, f8, f9, f10, f11, f12, f13, f14, a1, a2, a3, a4, a5, a6, a7, a8, a9, a10, a11, a12, a13, a14, a15⟩ := u
  refine ⟨by decide, by decide, 15, 4310, by decide, by decide, ci_initX (k0 := 100) (fun v hv => ?_)⟩
  rw [e100] at hv
  have hG := qr_F hv
  obtain ⟨g1, g2, g3, g4, g5, g6, g7, g8, g9, g10, g11, g12, g13, g14, b1, b2, b3, b4, b5, b6, b7, b8, b9, b10, b11, b12, b13, b14, b15⟩ := v
  refine qj_cell (p := 1) hL (by decide) ?_
  by_cases h : qj_c L xs 1 &&& 1 = 1
  · exact br_t h (qr_36 (pg := 1) hL rfl (by decide) hF hG)
  · exact br_f h (qr_36 (pg := 0) hL rfl (by decide) hF hG)
