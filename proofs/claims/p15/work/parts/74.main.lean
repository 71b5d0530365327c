section QN
variable {post : Int32 → Prop} {Ln : Nat} {xs : Nat → Int32} {f1 f2 f3 f4 f5 f6 f7 f8 f9 f10 f11 f12 f13 f14 : Int32} {a1 a2 a3 a4 a5 a6 a7 a8 a9 a10 a11 a12 a13 a14 a15 : Nat → Int32} {g1 g2 g3 g4 g5 g6 g7 g8 g9 g10 g11 g12 g13 g14 : Int32} {b1 b2 b3 b4 b5 b6 b7 b8 b9 b10 b11 b12 b13 b14 b15 : Nat → Int32}
def qn_b (b : Bool) : Int32 := if b = true then 1 else 0
def qn_N' (body : Bool) (t i k : Nat) (pN : qn_T) : qn_T := if body = true ∧ (t = 1 ∨ t = 3) then (fun j => if j = i then some (k, t == 3) else pN j) else pN
def qn_K' (body : Bool) (t i d : Nat) (pC : qg_K) : qg_K := if body = true ∧ t = 5 then (fun j => if j = i then some d else pC j) else pC
theorem qn_389 {J : Int32 → Int32 → Int32 → Int32 → Int32 → Int64 → Int64 → Int32 → Int32 → Int32 → Int32 → Int32 → Int32 → Int32 → Int32 → Int32 → Int32 → Int32 → Int32 → Int32 → Int32 → Int32 → (Nat → Int32) → (Nat → Int32) → (Nat → Int32) → (Nat → Int32) → (Nat → Int32) → (Nat → Int32) → (Nat → Int32) → (Nat → Int32) → (Nat → Int32) → (Nat → Int32) → (Nat → Int32) → (Nat → Int32) → (Nat → Int32) → (Nat → Int32) → (Nat → Int32) → Int32 → Int32 → Int32 → Int32 → Int32 → Int32 → Int32 → Int32 → Int32 → Int32 → Int32 → Int32 → Int32 → Int32 → (Nat → Int32) → (Nat → Int32) → (Nat → Int32) → (Nat → Int32) → (Nat → Int32) → (Nat → Int32) → (Nat → Int32) → (Nat → Int32) → (Nat → Int32) → (Nat → Int32) → (Nat → Int32) → (Nat → Int32) → (Nat → Int32) → (Nat → Int32) → (Nat → Int32) → Prop} {x3 x4 x5 x6 x9 x10 x11 : Int32} {gn gc : Int64} {kc ks k t g len : Nat} {toA body : Bool} {La Lb : List Nat} {pN : qn_T} {pC : qg_K} (hL : Ln ≤ 260) (hk : k ≤ 1000) (ht : t < 8) (hla : La.length + 12 ≤ 256) (hlb : Lb.length + 12 ≤ 256) (hlen : len ≤ 256) (hN : ql_N gn pN) (hC : ql_C gc pC) (hA : qi_F La (f1, f2, f3, f4, f5, f6, f7, f8, f9, f10, f11, f12, f13, f14, a1, a2, a3, a4, a5, a6, a7, a8, a9, a10, a11, a12, a13, a14, a15)) (hB : qi_F Lb (g1, g2, g3, g4, g5, g6, g7, g8, g9, g10, g11, g12, g13, g14, b1, b2, b3, b4, b5, b6, b7, b8, b9, b10, b11, b12, b13, b14, b15))
    (K : ∀ gn' gc' (f1 f2 f3 f4 f5 f6 f7 f8 f9 f10 f11 f12 f13 f14 : Int32) (a1 a2 a3 a4 a5 a6 a7 a8 a9 a10 a11 a12 a13 a14 a15 : Nat → Int32) (g1 g2 g3 g4 g5 g6 g7 g8 g9 g10 g11 g12 g13 g14 : Int32) (b1 b2 b3 b4 b5 b6 b7 b8 b9 b10 b11 b12 b13 b14 b15 : Nat → Int32), ql_N gn' (qn_N' body t (qh_m (qj_c Ln xs (k + 1)) 4) k pN) → ql_C gc' (qn_K' body t (qh_m (qj_c Ln xs (k + 1)) 4) (qh_m (qj_c Ln xs (k + 2)) 8) pC) → qi_F (La ++ (if toA = true then qj_x Ln xs k t else [])) (f1, f2, f3, f4, f5, f6, f7, f8, f9, f10, f11, f12, f13, f14, a1, a2, a3, a4, a5, a6, a7, a8, a9, a10, a11, a12, a13, a14, a15) → qi_F (Lb ++ qj_x Ln xs k t) (g1, g2, g3, g4, g5, g6, g7, g8, g9, g10, g11, g12, g13, g14, b1, b2, b3, b4, b5, b6, b7, b8, b9, b10, b11, b12, b13, b14, b15) → J (nI (k + 6)) (nI (len + (qj_x Ln xs k t).length)) x9 x10 x11 gn' gc' (nI (g + 1)) f1 f2 f3 f4 f5 f6 f7 f8 f9 f10 f11 f12 f13 f14 a1 a2 a3 a4 a5 a6 a7 a8 a9 a10 a11 a12 a13 a14 a15 g1 g2 g3 g4 g5 g6 g7 g8 g9 g10 g11 g12 g13 g14 b1 b2 b3 b4 b5 b6 b7 b8 b9 b10 b11 b12 b13 b14 b15) :
    wL_law_389 post Ln xs J x3 x4 x5 x6 (nI k) (nI len) x9 x10 x11 gn gc (nI g) (nI t) (qn_b toA) (qn_b body) kc ks f1 f2 f3 f4 f5 f6 f7 f8 f9 f10 f11 f12 f13 f14 a1 a2 a3 a4 a5 a6 a7 a8 a9 a10 a11 a12 a13 a14 a15 g1 g2 g3 g4 g5 g6 g7 g8 g9 g10 g11 g12 g13 g14 b1 b2 b3 b4 b5 b6 b7 b8 b9 b10 b11 b12 b13 b14 b15 := by
  have hx := qh_len (t := t) (c1 := qj_c Ln xs (k + 1)) (c2 := qj_c Ln xs (k + 2)) (c3 := qj_c Ln xs (k + 3)) (c4 := qj_c Ln xs (k + 4)) (c5 := qj_c Ln xs (k + 5)) ht
  have hx12 : (qj_x Ln xs k t).length ≤ 12 := by
    refine Nat.le_trans hx ?_
    split <;> decide
  have e1 : nI k + 1 = nI (k + 1) := nI_1 _
  have e2 : nI k + 2 = nI (k + 2) := nI_add k 2
  have e3 : nI k + 3 = nI (k + 3) := nI_add k 3
  have e4 : nI k + 4 = nI (k + 4) := nI_add k 4
  have e5 : nI k + 5 = nI (k + 5) := nI_add k 5
  unfold wL_law_389
  rw [e1, e2, e3, e4, e5]
  refine qj_cell hL (by omega) (qj_cell hL (by omega) (qj_cell hL (by omega) (qj_cell hL (by omega) (qj_cell hL (by omega) ?_))))
  -- behind the long numbers
  have go : ∀ gn' gc', ql_N gn' (qn_N' body t (qh_m (qj_c Ln xs (k + 1)) 4) k pN) → ql_C gc' (qn_K' body t (qh_m (qj_c Ln xs (k + 1)) 4) (qh_m (qj_c Ln xs (k + 2)) 8) pC) → ∃ fu516 : Nat, wL_law_516 post Ln xs J x3 x4 x5 x6 (nI k) x9 x10 x11 gn' gc' (nI g) (nI t) (qn_b toA) (qj_c Ln xs (k + 1)) (qj_c Ln xs (k + 2)) (qj_c Ln xs (k + 3)) (qj_c Ln xs (k + 4)) (qj_c Ln xs (k + 5)) kc ks fu516 (nI len) 0 f1 f2 f3 f4 f5 f6 f7 f8 f9 f10 f11 f12 f13 f14 a1 a2 a3 a4 a5 a6 a7 a8 a9 a10 a11 a12 a13 a14 a15 g1 g2 g3 g4 g5 g6 g7 g8 g9 g10 g11 g12 g13 g14 b1 b2 b3 b4 b5 b6 b7 b8 b9 b10 b11 b12 b13 b14 b15 := fun gn' gc' h1 h2 => by
    have e0 : (if toA = true then ([] : List Nat) else []) = [] := by split <;> rfl
    have hA0 : qi_F (La ++ (if toA = true then ([] : List Nat) else [])) (f1, f2, f3, f4, f5, f6, f7, f8, f9, f10, f11, f12, f13, f14, a1, a2, a3, a4, a5, a6, a7, a8, a9, a10, a11, a12, a13, a14, a15) := by rw [e0, List.append_nil]; exact hA
    have hB0 : qi_F (Lb ++ []) (g1, g2, g3, g4, g5, g6, g7, g8, g9, g10, g11, g12, g13, g14, b1, b2, b3, b4, b5, b6, b7, b8, b9, b10, b11, b12, b13, b14, b15) := by rw [List.append_nil]; exact hB
    have h := qj_516 (post := post) (Ln := Ln) (xs := xs) (J := J) (x3 := x3) (x4 := x4) (x5 := x5) (x6 := x6) (x9 := x9) (x10 := x10) (x11 := x11) (gn := gn') (gc := gc') (kc := kc) (ks := ks) (k := k) (t := t) (g := g) (len := len) (toA := toA) (La := La) (Lb := Lb) (x := qj_x Ln xs k t) ht rfl (by omega) (qj_x128 ht) (by omega) (by omega) hlen (fun f1 f2 f3 f4 f5 f6 f7 f8 f9 f10 f11 f12 f13 f14 a1 a2 a3 a4 a5 a6 a7 a8 a9 a10 a11 a12 a13 a14 a15 g1 g2 g3 g4 g5 g6 g7 g8 g9 g10 g11 g12 g13 g14 b1 b2 b3 b4 b5 b6 b7 b8 b9 b10 b11 b12 b13 b14 b15 h3 h4 => K gn' gc' _ _ _ _ _ _ _ _ _ _ _ _ _ _ _ _ _ _ _ _ _ _ _ _ _ _ _ _ _ _ _ _ _ _ _ _ _ _ _ _ _ _ _ _ _ _ _ _ _ _ _ _ _ _ _ _ _ _ h1 h2 h3 h4) (qj_x Ln xs k t) [] ((qj_x Ln xs k t).length + 1) _ _ _ _ _ _ _ _ _ _ _ _ _ _ _ _ _ _ _ _ _ _ _ _ _ _ _ _ _ _ _ _ _ _ _ _ _ _ _ _ _ _ _ _ _ _ _ _ _ _ _ _ _ _ _ _ _ _ rfl (Nat.lt_succ_self _) hA0 hB0
    exact ⟨_, h⟩
  -- the char's long number
  have h482 : ∀ gn', ql_N gn' (qn_N' body t (qh_m (qj_c Ln xs (k + 1)) 4) k pN) → wL_law_482 post Ln xs J x3 x4 x5 x6 (nI k) (nI len) x9 x10 x11 gn' gc (nI g) (nI t) (qn_b toA) (qn_b body) (qj_c Ln xs (k + 1)) (qj_c Ln xs (k + 2)) (qj_c Ln xs (k + 3)) (qj_c Ln xs (k + 4)) (qj_c Ln xs (k + 5)) kc ks f1 f2 f3 f4 f5 f6 f7 f8 f9 f10 f11 f12 f13 f14 a1 a2 a3 a4 a5 a6 a7 a8 a9 a10 a11 a12 a13 a14 a15 g1 g2 g3 g4 g5 g6 g7 g8 g9 g10 g11 g12 g13 g14 b1 b2 b3 b4 b5 b6 b7 b8 b9 b10 b11 b12 b13 b14 b15 := fun gn' h1 => by
    cases body with
    | false => exact br_t rfl (go gn' gc h1 (by unfold qn_K'; rw [if_neg (fun z => nomatch z.1)]; exact hC))
    | true =>
      refine br_f (by decide) ?_
      by_cases h5 : t = 5
      · refine br_t (by rw [h5]; rfl) (qh_wm (d := 4) (by decide) (by decide) (qh_wm (d := 8) (by decide) (by decide) (ql_setC hC (qh_lt (by decide)) (qh_lt (by decide)) (fun gc' h2 => go gn' gc' h1 ?_))))
        unfold qn_K'
        rw [if_pos ⟨rfl, h5⟩]
        exact h2
      · refine br_f (qh_ne (b := 5) h5 (by omega) (by decide)) (go gn' gc h1 ?_)
        unfold qn_K'
        rw [if_neg (fun z => h5 z.2)]
        exact hC
  have hno : ¬ (body = true ∧ (t = 1 ∨ t = 3)) → ql_N gn (qn_N' body t (qh_m (qj_c Ln xs (k + 1)) 4) k pN) := fun z => by
    unfold qn_N'
    rw [if_neg z]
    exact hN
  -- the name's long number
  have h456 : body = true → (t = 1 ∨ t = 3) → wL_law_456 post Ln xs J x3 x4 x5 x6 (nI k) (nI len) x9 x10 x11 gn gc (nI g) (nI t) (qn_b toA) (qn_b body) (qj_c Ln xs (k + 1)) (qj_c Ln xs (k + 2)) (qj_c Ln xs (k + 3)) (qj_c Ln xs (k + 4)) (qj_c Ln xs (k + 5)) kc ks f1 f2 f3 f4 f5 f6 f7 f8 f9 f10 f11 f12 f13 f14 a1 a2 a3 a4 a5 a6 a7 a8 a9 a10 a11 a12 a13 a14 a15 g1 g2 g3 g4 g5 g6 g7 g8 g9 g10 g11 g12 g13 g14 b1 b2 b3 b4 b5 b6 b7 b8 b9 b10 b11 b12 b13 b14 b15 := fun hb h13 => by
    have hyes : ∀ gn', ql_N gn' (fun j => if j = qh_m (qj_c Ln xs (k + 1)) 4 then some (k, t == 3) else pN j) → ql_N gn' (qn_N' body t (qh_m (qj_c Ln xs (k + 1)) 4) k pN) := fun gn' z => by
      unfold qn_N'
      rw [if_pos ⟨hb, h13⟩]
      exact z
    refine qh_wm (d := 4) (by decide) (by decide) ?_
    by_cases h3 : t = 3
    · refine br_t (by rw [h3]; rfl) ?_
      have hs := ql_setN (b := true) (p := k) hN (qh_lt (x := qj_c Ln xs (k + 1)) (d := 4) (by decide)) (by omega) (fun gn' z => h482 gn' (hyes gn' (by rw [h3]; exact z)))
      exact hs
    · refine br_f (qh_ne (b := 3) h3 (by omega) (by decide)) ?_
      have h1 : t = 1 := by omega
      have hs := ql_setN (b := false) (p := k) hN (qh_lt (x := qj_c Ln xs (k + 1)) (d := 4) (by decide)) (by omega) (fun gn' z => h482 gn' (hyes gn' (by rw [h1]; exact z)))
      exact hs
  cases body with
  | false => exact br_t rfl (h482 gn (hno (fun z => nomatch z.1)))
  | true =>
    refine br_f (by decide) ?_
    by_cases h1 : t = 1
    · exact br_t (by rw [h1]; rfl) (h456 rfl (Or.inl h1))
    · refine br_f (qh_ne (b := 1) h1 (by omega) (by decide)) ?_
      by_cases h3 : t = 3
      · exact br_t (by rw [h3]; rfl) (h456 rfl (Or.inr h3))
      · exact br_f (qh_ne (b := 3) h3 (by omega) (by decide)) (h482 gn (hno (fun z => by omega)))
end QN
