section QO
variable {Ln : Nat} {xs : Nat → Int32} {f1 f2 f3 f4 f5 f6 f7 f8 f9 f10 f11 f12 f13 f14 : Int32} {a1 a2 a3 a4 a5 a6 a7 a8 a9 a10 a11 a12 a13 a14 a15 : Nat → Int32} {g1 g2 g3 g4 g5 g6 g7 g8 g9 g10 g11 g12 g13 g14 : Int32} {b1 b2 b3 b4 b5 b6 b7 b8 b9 b10 b11 b12 b13 b14 b15 : Nat → Int32}
/-- what the body has given for good, as meanings -/
def qo_g (Ln : Nat) (xs : Nat → Int32) (pN : qn_T) : qg_N := fun i => (pN i).map fun v => qd_mn (if v.2 = true then 3 else 1) (qh_l (if v.2 = true then 3 else 1) (qj_c Ln xs (v.1 + 2)) (qj_c Ln xs (v.1 + 3)) (qj_c Ln xs (v.1 + 4)) (qj_c Ln xs (v.1 + 5)))
theorem qo_gN {t k : Nat} {pN : qn_T} (ht : t < 6) : qo_g Ln xs (qn_N' true t (qh_m (qj_c Ln xs (k + 1)) 4) k pN) = qg_N' t (qh_i t (qj_c Ln xs (k + 1))) (qh_l t (qj_c Ln xs (k + 2)) (qj_c Ln xs (k + 3)) (qj_c Ln xs (k + 4)) (qj_c Ln xs (k + 5))) (qo_g Ln xs pN) := by
  have hi : qh_i t (qj_c Ln xs (k + 1)) = qh_m (qj_c Ln xs (k + 1)) 4 := by unfold qh_i; rw [if_pos ht]
  rw [hi]
  funext j
  unfold qo_g qn_N' qg_N'
  by_cases h : t = 1 ∨ t = 3
  · rw [if_pos ⟨rfl, h⟩, if_pos h]
    by_cases e : j = qh_m (qj_c Ln xs (k + 1)) 4
    · rw [if_pos e, if_pos e]
      rcases h with rfl | rfl
      · rfl
      · rfl
    · rw [if_neg e, if_neg e]
  · rw [if_neg (fun z => h z.2), if_neg h]
theorem qo_gK {t k : Nat} {pC : qg_K} (ht : t < 6) : qn_K' true t (qh_m (qj_c Ln xs (k + 1)) 4) (qh_m (qj_c Ln xs (k + 2)) 8) pC = qg_K' t (qh_i t (qj_c Ln xs (k + 1))) (qh_l t (qj_c Ln xs (k + 2)) (qj_c Ln xs (k + 3)) (qj_c Ln xs (k + 4)) (qj_c Ln xs (k + 5))) pC := by
  have hi : qh_i t (qj_c Ln xs (k + 1)) = qh_m (qj_c Ln xs (k + 1)) 4 := by unfold qh_i; rw [if_pos ht]
  rw [hi]
  funext j
  unfold qn_K' qg_K'
  by_cases h : t = 5
  · rw [if_pos ⟨rfl, h⟩, if_pos h]
    subst h
    have e : qd_kk 5 (qh_l 5 (qj_c Ln xs (k + 2)) (qj_c Ln xs (k + 3)) (qj_c Ln xs (k + 4)) (qj_c Ln xs (k + 5))) = qh_m (qj_c Ln xs (k + 2)) 8 := Nat.add_sub_cancel_left 48 _
    rw [e]
  · rw [if_neg (fun z => h z.2), if_neg h]
theorem qo_no1 {t i k : Nat} {pN : qn_T} : qn_N' false t i k pN = pN := if_neg (fun z => nomatch z.1)
theorem qo_no2 {t i d : Nat} {pC : qg_K} : qn_K' false t i d pC = pC := if_neg (fun z => nomatch z.1)
theorem qo_hi1 {b : Bool} {t i k : Nat} {pN : qn_T} (h : 6 ≤ t) : qn_N' b t i k pN = pN := if_neg (fun z => by omega)
theorem qo_hi2 {b : Bool} {t i d : Nat} {pC : qg_K} (h : 6 ≤ t) : qn_K' b t i d pC = pC := if_neg (fun z => by omega)
/-- how many turns are left at most -/
def qo_R (ph inner cnt : Nat) : Nat := if ph = 0 then 37 - cnt else if ph = 1 then 34 else if ph = 2 then 33 - cnt else if ph = 3 then 30 else if ph = 4 then 29 - cnt else if ph = 5 then inner + 2 else if ph = 6 then 1 else 0
/-- how long the text is at most -/
def qo_B (ph inner cnt : Nat) : Nat := if ph = 0 then 12 * cnt else if ph = 1 then 24 else if ph = 2 then 36 + 12 * cnt else if ph = 3 then 60 else if ph = 4 then 202 else if ph = 5 then 220 - 9 * inner else if ph = 6 then 220 else 229
def qo_Num (n1 n2 n3 ph inner cnt : Nat) : Prop := ph ≤ 7 ∧ inner ≤ 2 ∧ (ph = 0 → cnt ≤ n1) ∧ (ph = 1 → cnt = 0) ∧ (ph = 2 → cnt ≤ n2) ∧ (ph = 3 → cnt = 0) ∧ (ph = 4 → cnt ≤ n3) ∧ (ph ≤ 3 → inner = 0) ∧ (ph = 6 → inner = 0)
def qo_Sem (Ln : Nat) (xs : Nat → Int32) (ph inner : Nat) (La Lb : List Nat) (pN : qn_T) (pC : qg_K) : Prop :=
  (ph ≤ 3 → La = Lb ∧ qm_P La ∧ pN = (fun _ => none) ∧ pC = fun _ => none) ∧ (4 ≤ ph → ph ≤ 6 → qm_S inner La Lb (qo_g Ln xs pN) pC) ∧ (ph = 7 → qm_Z La Lb (qo_g Ln xs pN) pC)
/-- between two turns of the law's loop -/
def qo_I (Ln : Nat) (xs : Nat → Int32) (n1 n2 n3 ph k len inner cnt g : Nat) (gn gc : Int64) (La Lb : List Nat) (pN : qn_T) (pC : qg_K) (u w : St1) : Prop :=
  k ≤ 4 + 6 * g ∧ g + qo_R ph inner cnt ≤ 79 ∧ qo_Num n1 n2 n3 ph inner cnt ∧ len = Lb.length ∧ La.length ≤ Lb.length ∧ len ≤ qo_B ph inner cnt ∧ ql_N gn pN ∧ ql_C gc pC ∧ qi_F La u ∧ qi_F Lb w ∧ qo_Sem Ln xs ph inner La Lb pN pC
theorem qo_loop {post : Int32 → Prop} {pg n1 n2 n3 kc ks : Nat} (hL : Ln ≤ 260) (hn1 : n1 ≤ 2) (hn2 : n2 ≤ 2) (hn3 : n3 ≤ 24) (hpg : pg ≤ 1)
    (K : ∀ La Lb gn gc pN pC (f1 f2 f3 f4 f5 f6 f7 f8 f9 f10 f11 f12 f13 f14 : Int32) (a1 a2 a3 a4 a5 a6 a7 a8 a9 a10 a11 a12 a13 a14 a15 : Nat → Int32) (g1 g2 g3 g4 g5 g6 g7 g8 g9 g10 g11 g12 g13 g14 : Int32) (b1 b2 b3 b4 b5 b6 b7 b8 b9 b10 b11 b12 b13 b14 b15 : Nat → Int32), ql_N gn pN → ql_C gc pC → qi_F La (f1, f2, f3, f4, f5, f6, f7, f8, f9, f10, f11, f12, f13, f14, a1, a2, a3, a4, a5, a6, a7, a8, a9, a10, a11, a12, a13, a14, a15) → qi_F Lb (g1, g2, g3, g4, g5, g6, g7, g8, g9, g10, g11, g12, g13, g14, b1, b2, b3, b4, b5, b6, b7, b8, b9, b10, b11, b12, b13, b14, b15) → qm_Z La Lb (qo_g Ln xs pN) pC → wL_law_587 post Ln xs gn gc kc ks f1 f2 f3 f4 f5 f6 f7 f8 f9 f10 f11 f12 f13 f14 a1 a2 a3 a4 a5 a6 a7 a8 a9 a10 a11 a12 a13 a14 a15 g1 g2 g3 g4 g5 g6 g7 g8 g9 g10 g11 g12 g13 g14 b1 b2 b3 b4 b5 b6 b7 b8 b9 b10 b11 b12 b13 b14 b15) :
    ∀ (N ph k len inner cnt g : Nat) (gn gc : Int64) (La Lb : List Nat) (pN : qn_T) (pC : qg_K) (f1 f2 f3 f4 f5 f6 f7 f8 f9 f10 f11 f12 f13 f14 : Int32) (a1 a2 a3 a4 a5 a6 a7 a8 a9 a10 a11 a12 a13 a14 a15 : Nat → Int32) (g1 g2 g3 g4 g5 g6 g7 g8 g9 g10 g11 g12 g13 g14 : Int32) (b1 b2 b3 b4 b5 b6 b7 b8 b9 b10 b11 b12 b13 b14 b15 : Nat → Int32), qo_I Ln xs n1 n2 n3 ph k len inner cnt g gn gc La Lb pN pC (f1, f2, f3, f4, f5, f6, f7, f8, f9, f10, f11, f12, f13, f14, a1, a2, a3, a4, a5, a6, a7, a8, a9, a10, a11, a12, a13, a14, a15) (g1, g2, g3, g4, g5, g6, g7, g8, g9, g10, g11, g12, g13, g14, b1, b2, b3, b4, b5, b6, b7, b8, b9, b10, b11, b12, b13, b14, b15) → qo_R ph inner cnt < N → wL_law_103 post Ln xs (nI pg) (nI n1) (nI n2) (nI n3) kc ks N (nI k) (nI len) (nI inner) (nI ph) (nI cnt) gn gc (nI g) f1 f2 f3 f4 f5 f6 f7 f8 f9 f10 f11 f12 f13 f14 a1 a2 a3 a4 a5 a6 a7 a8 a9 a10 a11 a12 a13 a14 a15 g1 g2 g3 g4 g5 g6 g7 g8 g9 g10 g11 g12 g13 g14 b1 b2 b3 b4 b5 b6 b7 b8 b9 b10 b11 b12 b13 b14 b15 := by
  intro N
  induction N with
  | zero => intro ph k len inner cnt g gn gc La Lb pN pC f1 f2 f3 f4 f5 f6 f7 f8 f9 f10 f11 f12 f13 f14 a1 a2 a3 a4 a5 a6 a7 a8 a9 a10 a11 a12 a13 a14 a15 g1 g2 g3 g4 g5 g6 g7 g8 g9 g10 g11 g12 g13 g14 b1 b2 b3 b4 b5 b6 b7 b8 b9 b10 b11 b12 b13 b14 b15 _ h; omega
  | succ N ih =>
    intro ph k len inner cnt g gn gc La Lb pN pC f1 f2 f3 f4 f5 f6 f7 f8 f9 f10 f11 f12 f13 f14 a1 a2 a3 a4 a5 a6 a7 a8 a9 a10 a11 a12 a13 a14 a15 g1 g2 g3 g4 g5 g6 g7 g8 g9 g10 g11 g12 g13 g14 b1 b2 b3 b4 b5 b6 b7 b8 b9 b10 b11 b12 b13 b14 b15 I hN
    obtain ⟨hk, hg, hnum, hlen, hab, hB, hgn, hgc, hA, hBf, hS1, hS2, hS3⟩ := I
    have hB229 : qo_B ph inner cnt ≤ 229 := by
      obtain ⟨m1, m2, m3, m4, m5, m6, m7, m8, m9⟩ := hnum
      unfold qo_B
      repeat' split
      all_goals omega
    -- a turn without a command
    have skip : ∀ ph' inner' cnt', qo_R ph' inner' cnt' < qo_R ph inner cnt → qo_Num n1 n2 n3 ph' inner' cnt' → len ≤ qo_B ph' inner' cnt' → qo_Sem Ln xs ph' inner' La Lb pN pC → wL_law_103 post Ln xs (nI pg) (nI n1) (nI n2) (nI n3) kc ks N (nI k) (nI len) (nI inner') (nI ph') (nI cnt') gn gc (nI (g + 1)) f1 f2 f3 f4 f5 f6 f7 f8 f9 f10 f11 f12 f13 f14 a1 a2 a3 a4 a5 a6 a7 a8 a9 a10 a11 a12 a13 a14 a15 g1 g2 g3 g4 g5 g6 g7 g8 g9 g10 g11 g12 g13 g14 b1 b2 b3 b4 b5 b6 b7 b8 b9 b10 b11 b12 b13 b14 b15 := fun ph' inner' cnt' r1 r2 r3 r4 =>
      ih ph' k len inner' cnt' (g + 1) gn gc La Lb pN pC _ _ _ _ _ _ _ _ _ _ _ _ _ _ _ _ _ _ _ _ _ _ _ _ _ _ _ _ _ _ _ _ _ _ _ _ _ _ _ _ _ _ _ _ _ _ _ _ _ _ _ _ _ _ _ _ _ _ ⟨by omega, by omega, r2, hlen, hab, r3, hgn, hgc, hA, hBf, r4⟩ (by omega)
    -- a turn with one
    have cmd : ∀ (t ph' inner' cnt' : Nat) (toA body : Bool), t < 8 → len + 12 ≤ 256 → (toA = false → La.length ≤ Lb.length) → qo_R ph' inner' cnt' < qo_R ph inner cnt → qo_Num n1 n2 n3 ph' inner' cnt' → len + (if t = 7 then 9 else 12) ≤ qo_B ph' inner' cnt' → qo_Sem Ln xs ph' inner' (La ++ (if toA = true then qj_x Ln xs k t else [])) (Lb ++ qj_x Ln xs k t) (qn_N' body t (qh_m (qj_c Ln xs (k + 1)) 4) k pN) (qn_K' body t (qh_m (qj_c Ln xs (k + 1)) 4) (qh_m (qj_c Ln xs (k + 2)) 8) pC) →
        wL_law_389 post Ln xs (wL_law_103 post Ln xs (nI pg) (nI n1) (nI n2) (nI n3) kc ks N) (nI pg) (nI n1) (nI n2) (nI n3) (nI k) (nI len) (nI inner') (nI ph') (nI cnt') gn gc (nI g) (nI t) (qn_b toA) (qn_b body) kc ks f1 f2 f3 f4 f5 f6 f7 f8 f9 f10 f11 f12 f13 f14 a1 a2 a3 a4 a5 a6 a7 a8 a9 a10 a11 a12 a13 a14 a15 g1 g2 g3 g4 g5 g6 g7 g8 g9 g10 g11 g12 g13 g14 b1 b2 b3 b4 b5 b6 b7 b8 b9 b10 b11 b12 b13 b14 b15 := fun t ph' inner' cnt' toA body ht hl12 _ r1 r2 r3 r4 => by
      have hx := qh_len (t := t) (c1 := qj_c Ln xs (k + 1)) (c2 := qj_c Ln xs (k + 2)) (c3 := qj_c Ln xs (k + 3)) (c4 := qj_c Ln xs (k + 4)) (c5 := qj_c Ln xs (k + 5)) ht
      have hx' : (qj_x Ln xs k t).length ≤ (if t = 7 then 9 else 12) := hx
      refine qn_389 hL (by omega) ht (by omega) (by omega) (by omega) hgn hgc hA hBf (fun gn' gc' f1 f2 f3 f4 f5 f6 f7 f8 f9 f10 f11 f12 f13 f14 a1 a2 a3 a4 a5 a6 a7 a8 a9 a10 a11 a12 a13 a14 a15 g1 g2 g3 g4 g5 g6 g7 g8 g9 g10 g11 g12 g13 g14 b1 b2 b3 b4 b5 b6 b7 b8 b9 b10 b11 b12 b13 b14 b15 h1 h2 h3 h4 => ?_)
      refine ih ph' (k + 6) (len + (qj_x Ln xs k t).length) inner' cnt' (g + 1) gn' gc' _ _ _ _ _ _ _ _ _ _ _ _ _ _ _ _ _ _ _ _ _ _ _ _ _ _ _ _ _ _ _ _ _ _ _ _ _ _ _ _ _ _ _ _ _ _ _ _ _ _ _ _ _ _ _ _ _ _ _ _ _ _ ⟨by omega, by omega, r2, by rw [List.length_append, hlen], ?_, by omega, h1, h2, h3, h4, r4⟩ (by omega)
      rw [List.length_append, List.length_append]
      cases toA with
      | true => show La.length + (qj_x Ln xs k t).length ≤ _; omega
      | false => show La.length + 0 ≤ _; omega
    refine br_f (nI_ge (b := 80) (by omega) (by decide)) ?_
    by_cases h7 : ph = 7
    · subst h7
      exact br_t (nI_le (a := 7) (Nat.le_refl _) (by decide)) (K La Lb gn gc pN pC _ _ _ _ _ _ _ _ _ _ _ _ _ _ _ _ _ _ _ _ _ _ _ _ _ _ _ _ _ _ _ _ _ _ _ _ _ _ _ _ _ _ _ _ _ _ _ _ _ _ _ _ _ _ _ _ _ _ hgn hgc hA hBf (hS3 rfl))
    · obtain ⟨m1, m2, m3, m4, m5, m6, m7, m8, m9⟩ := hnum
      refine br_f (nI_ge (b := 7) (by omega) (by decide)) ?_
      have hlt6 : ∀ x : Int32, qh_m x 6 < 6 := fun x => qh_lt (by decide)
      have hph : ph = 0 ∨ ph = 1 ∨ ph = 2 ∨ ph = 3 ∨ ph = 4 ∨ ph = 5 ∨ ph = 6 := by omega
      rcases hph with rfl | rfl | rfl | rfl | rfl | rfl | rfl
      · obtain ⟨s1, s2, s3, s4⟩ := hS1 (by decide)
        refine br_t rfl ?_
        by_cases hc : cnt < n1
        · refine br_t (nI_lt hc (by omega)) (qj_cell hL (by omega) (qh_wm (d := 6) (by decide) (by decide) (nm_r (nI_1 _) ?_)))
          have ht := hlt6 (qj_c Ln xs k)
          generalize qh_m (qj_c Ln xs k) 6 = t at ht
          have hi0 := m8 (by decide)
          have hB0 : len ≤ 12 * cnt := hB
          refine cmd t 0 inner (cnt + 1) true false (by omega) (by omega) (fun z => nomatch z) ?_ ⟨by decide, m2, fun _ => by omega, fun z => by omega, fun z => by omega, fun z => by omega, fun z => by omega, fun _ => hi0, fun z => by omega⟩ ?_ ⟨fun _ => ⟨by rw [s1]; rfl, ?_, ?_⟩, fun z => by omega, fun z => by omega⟩
          · show 37 - (cnt + 1) < 37 - cnt
            omega
          · rw [if_neg (by omega)]
            show len + 12 ≤ 12 * (cnt + 1)
            omega
          · exact qm_pre s2 ht (qh_ok ht)
          · rw [qo_no1, qo_no2]
            exact ⟨s3, s4⟩
        · refine br_f (nI_nlt (by omega) (by omega)) (nm_r (nI_1 _) (skip 1 inner 0 ?_ ⟨by decide, m2, fun z => by omega, fun _ => rfl, fun z => by omega, fun z => by omega, fun z => by omega, fun _ => m8 (by decide), fun z => by omega⟩ ?_ ⟨fun _ => hS1 (by decide), fun z => by omega, fun z => by omega⟩))
          · have := m3 rfl
            show 34 < 37 - cnt
            omega
          · have hB0 : len ≤ 12 * cnt := hB
            have := m3 rfl
            show len ≤ 24
            omega
      · obtain ⟨s1, s2, s3, s4⟩ := hS1 (by decide)
        have hc0 := m4 rfl
        have hB0 : len ≤ 24 := hB
        refine br_f (by decide) (br_t rfl ?_)
        by_cases hp : pg = 0
        · refine br_t (by rw [hp]; rfl) (nm_r (nI_1 _) (skip 2 inner cnt ?_ ⟨by decide, m2, fun z => by omega, fun z => by omega, fun _ => by omega, fun z => by omega, fun z => by omega, fun _ => m8 (by decide), fun z => by omega⟩ ?_ ⟨fun _ => hS1 (by decide), fun z => by omega, fun z => by omega⟩))
          · show 33 - cnt < 34
            omega
          · show len ≤ 36 + 12 * cnt
            omega
        · refine br_f (nI_ne0 (by omega) (by omega)) ?_
          refine cmd 6 2 inner cnt true false (by decide) (by omega) (fun z => nomatch z) ?_ ⟨by decide, m2, fun z => by omega, fun z => by omega, fun _ => by omega, fun z => by omega, fun z => by omega, fun _ => m8 (by decide), fun z => by omega⟩ ?_ ⟨fun _ => ⟨by rw [s1]; rfl, ?_, ?_⟩, fun z => by omega, fun z => by omega⟩
          · show 33 - cnt < 34
            omega
          · rw [if_neg (by decide)]
            show len + 12 ≤ 36 + 12 * cnt
            omega
          · exact qm_pre6 (l := qh_l 6 (qj_c Ln xs (k + 2)) (qj_c Ln xs (k + 3)) (qj_c Ln xs (k + 4)) (qj_c Ln xs (k + 5))) s2
          · rw [qo_no1, qo_no2]
            exact ⟨s3, s4⟩
      · obtain ⟨s1, s2, s3, s4⟩ := hS1 (by decide)
        have hB0 : len ≤ 36 + 12 * cnt := hB
        have hcn := m5 rfl
        refine br_f (by decide) (br_f (by decide) (br_t rfl ?_))
        by_cases hc : cnt < n2
        · refine br_t (nI_lt hc (by omega)) (qj_cell hL (by omega) (qh_wm (d := 6) (by decide) (by decide) (nm_r (nI_1 _) ?_)))
          have ht := hlt6 (qj_c Ln xs k)
          generalize qh_m (qj_c Ln xs k) 6 = t at ht
          have hi0 := m8 (by decide)
          refine cmd t 2 inner (cnt + 1) true false (by omega) (by omega) (fun z => nomatch z) ?_ ⟨by decide, m2, fun z => by omega, fun z => by omega, fun _ => by omega, fun z => by omega, fun z => by omega, fun _ => hi0, fun z => by omega⟩ ?_ ⟨fun _ => ⟨by rw [s1]; rfl, ?_, ?_⟩, fun z => by omega, fun z => by omega⟩
          · show 33 - (cnt + 1) < 33 - cnt
            omega
          · rw [if_neg (by omega)]
            show len + 12 ≤ 36 + 12 * (cnt + 1)
            omega
          · exact qm_pre s2 ht (qh_ok ht)
          · rw [qo_no1, qo_no2]
            exact ⟨s3, s4⟩
        · refine br_f (nI_nlt (by omega) (by omega)) (nm_r (nI_1 _) (skip 3 inner 0 ?_ ⟨by decide, m2, fun z => by omega, fun z => by omega, fun z => by omega, fun _ => rfl, fun z => by omega, fun _ => m8 (by decide), fun z => by omega⟩ ?_ ⟨fun _ => hS1 (by decide), fun z => by omega, fun z => by omega⟩))
          · show 30 < 33 - cnt
            omega
          · show len ≤ 60
            omega
      · obtain ⟨s1, s2, s3, s4⟩ := hS1 (by decide)
        have hB0 : len ≤ 60 := hB
        have hc0 := m6 rfl
        have hi0 := m8 (by decide)
        refine br_f (by decide) (br_f (by decide) (br_f (by decide) (br_t rfl ?_)))
        refine cmd 6 4 inner cnt true false (by decide) (by omega) (fun z => nomatch z) ?_ ⟨by decide, m2, fun z => by omega, fun z => by omega, fun z => by omega, fun z => by omega, fun _ => by omega, fun z => by omega, fun z => by omega⟩ ?_ ⟨fun z => by omega, fun _ _ => ?_, fun z => by omega⟩
        · show 29 - cnt < 30
          omega
        · rw [if_neg (by decide)]
          show len + 12 ≤ 202
          omega
        · rw [qo_no1, qo_no2, s3, s4, hi0, s1]
          rw [s1] at s2
          exact qm_first (l := qh_l 6 (qj_c Ln xs (k + 2)) (qj_c Ln xs (k + 3)) (qj_c Ln xs (k + 4)) (qj_c Ln xs (k + 5))) s2
      · have hS := hS2 (by decide) (by decide)
        have hB0 : len ≤ 202 := hB
        have hcn := m7 rfl
        refine br_f (by decide) (br_f (by decide) (br_f (by decide) (br_f (by decide) (br_t rfl ?_))))
        -- the body ends
        have out : wL_law_103 post Ln xs (nI pg) (nI n1) (nI n2) (nI n3) kc ks N (nI k) (nI len) (nI inner) (nI 5) (nI cnt) gn gc (nI (g + 1)) f1 f2 f3 f4 f5 f6 f7 f8 f9 f10 f11 f12 f13 f14 a1 a2 a3 a4 a5 a6 a7 a8 a9 a10 a11 a12 a13 a14 a15 g1 g2 g3 g4 g5 g6 g7 g8 g9 g10 g11 g12 g13 g14 b1 b2 b3 b4 b5 b6 b7 b8 b9 b10 b11 b12 b13 b14 b15 := by
          refine skip 5 inner cnt ?_ ⟨by decide, m2, fun z => by omega, fun z => by omega, fun z => by omega, fun z => by omega, fun z => by omega, fun z => by omega, fun z => by omega⟩ ?_ ⟨fun z => by omega, fun _ _ => hS, fun z => by omega⟩
          · show inner + 2 < 29 - cnt
            omega
          · show len ≤ 220 - 9 * inner
            omega
        by_cases hc : n3 ≤ cnt
        · exact br_t (nI_le hc (by omega)) (nm_r (nI_1 _) out)
        · refine br_f (nI_ge (by omega) (by omega)) ?_
          by_cases h190 : len ≤ 190
          · refine br_t (nI_le (b := 190) h190 (by decide)) (qj_cell hL (by omega) ?_)
            have e7 : qj_c Ln xs k &&& 7 = nI ((qj_c Ln xs k).toBitVec.toNat % 2 ^ 3) := pk_and _ 3 (by decide)
            have ht : (qj_c Ln xs k).toBitVec.toNat % 2 ^ 3 < 8 := Nat.mod_lt _ (by decide)
            refine nm_r e7 ?_
            generalize (qj_c Ln xs k).toBitVec.toNat % 2 ^ 3 = t at ht
            have hR' : 29 - (cnt + 1) < 29 - cnt := by omega
            -- the command t, which is not 6 or 7 out of place
            have asg : ∀ t, t < 6 → wL_law_324 post Ln xs (wL_law_103 post Ln xs (nI pg) (nI n1) (nI n2) (nI n3) kc ks N) (nI pg) (nI n1) (nI n2) (nI n3) (nI k) (nI len) (nI inner) (nI 4) (nI cnt) gn gc (nI g) (nI t) 0 kc ks f1 f2 f3 f4 f5 f6 f7 f8 f9 f10 f11 f12 f13 f14 a1 a2 a3 a4 a5 a6 a7 a8 a9 a10 a11 a12 a13 a14 a15 g1 g2 g3 g4 g5 g6 g7 g8 g9 g10 g11 g12 g13 g14 b1 b2 b3 b4 b5 b6 b7 b8 b9 b10 b11 b12 b13 b14 b15 := fun t ht => by
              refine br_f (qh_ne (b := 6) (by omega) (by omega) (by decide)) (br_f (qh_ne (b := 7) (by omega) (by omega) (by decide)) (nm_r (nI_1 _) ?_))
              refine cmd t 4 inner (cnt + 1) false true (by omega) (by omega) (fun _ => hab) hR' ⟨by decide, m2, fun z => by omega, fun z => by omega, fun z => by omega, fun z => by omega, fun _ => by omega, fun z => by omega, fun z => by omega⟩ ?_ ⟨fun z => by omega, fun _ _ => ?_, fun z => by omega⟩
              · rw [if_neg (by omega)]
                show len + 12 ≤ 202
                omega
              · rw [qo_gN ht, qo_gK ht, if_neg (by decide), List.append_nil]
                exact qm_body hS ht (qh_ok ht)
            by_cases h6 : t = 6
            · subst h6
              refine br_t rfl ?_
              by_cases hi : inner < 2
              · refine br_t (nI_lt (b := 2) hi (by decide)) (br_f (by decide) (br_t rfl (nm_r (nI_1 _) (br_f (by decide) (nm_r (nI_1 _) ?_)))))
                refine cmd 6 4 (inner + 1) (cnt + 1) false true (by decide) (by omega) (fun _ => hab) hR' ⟨by decide, by omega, fun z => by omega, fun z => by omega, fun z => by omega, fun z => by omega, fun _ => by omega, fun z => by omega, fun z => by omega⟩ ?_ ⟨fun z => by omega, fun _ _ => ?_, fun z => by omega⟩
                · rw [if_neg (by decide)]
                  show len + 12 ≤ 202
                  omega
                · rw [qo_hi1 (by decide), qo_hi2 (by decide), if_neg (by decide), List.append_nil]
                  exact qm_open (l := qh_l 6 (qj_c Ln xs (k + 2)) (qj_c Ln xs (k + 3)) (qj_c Ln xs (k + 4)) (qj_c Ln xs (k + 5))) hS
              · exact br_f (nI_nlt (b := 2) (by omega) (by omega)) (br_f (by decide) (asg 0 (by decide)))
            · refine br_f (qh_ne (b := 6) h6 (by omega) (by decide)) ?_
              by_cases h7 : t = 7
              · subst h7
                refine br_t rfl ?_
                by_cases hi : inner = 0
                · exact br_t (by rw [hi]; rfl) (asg 4 (by decide))
                · refine br_f (nI_ne0 (by omega) (by omega)) (br_f (by decide) (br_t rfl (nm_r (show nI inner + (-1) = nI (inner - 1) by rw [xg_m1]; exact pk_sub (b := 1) (by omega)) (nm_r (nI_1 _) ?_))))
                  refine cmd 7 4 (inner - 1) (cnt + 1) false true (by decide) (by omega) (fun _ => hab) hR' ⟨by decide, by omega, fun z => by omega, fun z => by omega, fun z => by omega, fun z => by omega, fun _ => by omega, fun z => by omega, fun z => by omega⟩ ?_ ⟨fun z => by omega, fun _ _ => ?_, fun z => by omega⟩
                  · rw [if_pos rfl]
                    show len + 9 ≤ 202
                    omega
                  · rw [qo_hi1 (by decide), qo_hi2 (by decide), if_neg (by decide), List.append_nil]
                    refine qm_close (l := qh_l 7 (qj_c Ln xs (k + 2)) (qj_c Ln xs (k + 3)) (qj_c Ln xs (k + 4)) (qj_c Ln xs (k + 5))) ?_
                    rw [show inner - 1 + 1 = inner from by omega]
                    exact hS
              · exact br_f (qh_ne (b := 7) h7 (by omega) (by decide)) (asg t (by omega))
          · exact br_f (nI_ge (a := 190) (by omega) (by omega)) (nm_r (nI_1 _) out)
      · have hS := hS2 (by decide) (by decide)
        have hB0 : len ≤ 220 - 9 * inner := hB
        refine br_f (by decide) (br_f (by decide) (br_f (by decide) (br_f (by decide) (br_f (by decide) (br_t rfl ?_)))))
        by_cases hi : inner = 0
        · refine br_t (by rw [hi]; rfl) (nm_r (nI_1 _) (skip 6 inner cnt ?_ ⟨by decide, m2, fun z => by omega, fun z => by omega, fun z => by omega, fun z => by omega, fun z => by omega, fun z => by omega, fun _ => hi⟩ ?_ ⟨fun z => by omega, fun _ _ => hS, fun z => by omega⟩))
          · show 1 < inner + 2
            omega
          · show len ≤ 220
            omega
        · refine br_f (nI_ne0 (by omega) (by omega)) (nm_r (show nI inner + (-1) = nI (inner - 1) by rw [xg_m1]; exact pk_sub (b := 1) (by omega)) ?_)
          refine cmd 7 5 (inner - 1) cnt false false (by decide) (by omega) (fun _ => hab) ?_ ⟨by decide, by omega, fun z => by omega, fun z => by omega, fun z => by omega, fun z => by omega, fun z => by omega, fun z => by omega, fun z => by omega⟩ ?_ ⟨fun z => by omega, fun _ _ => ?_, fun z => by omega⟩
          · show inner - 1 + 2 < inner + 2
            omega
          · rw [if_pos rfl]
            show len + 9 ≤ 220 - 9 * (inner - 1)
            omega
          · rw [qo_no1, qo_no2, if_neg (by decide), List.append_nil]
            refine qm_close (l := qh_l 7 (qj_c Ln xs (k + 2)) (qj_c Ln xs (k + 3)) (qj_c Ln xs (k + 4)) (qj_c Ln xs (k + 5))) ?_
            rw [show inner - 1 + 1 = inner from by omega]
            exact hS
      · have hS := hS2 (by decide) (by decide)
        have hB0 : len ≤ 220 := hB
        have hi0 := m9 rfl
        refine br_f (by decide) (br_f (by decide) (br_f (by decide) (br_f (by decide) (br_f (by decide) (br_f (by decide) ?_)))))
        refine cmd 7 7 inner cnt false false (by decide) (by omega) (fun _ => hab) ?_ ⟨by decide, m2, fun z => by omega, fun z => by omega, fun z => by omega, fun z => by omega, fun z => by omega, fun z => by omega, fun z => by omega⟩ ?_ ⟨fun z => by omega, fun _ z => by omega, fun _ => ?_⟩
        · show 0 < 1
          decide
        · rw [if_pos rfl]
          show len + 9 ≤ 229
          omega
        · rw [qo_no1, qo_no2, if_neg (by decide), List.append_nil]
          rw [hi0] at hS
          exact qm_last (l := qh_l 7 (qj_c Ln xs (k + 2)) (qj_c Ln xs (k + 3)) (qj_c Ln xs (k + 4)) (qj_c Ln xs (k + 5))) hS
end QO
