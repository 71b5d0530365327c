section
section PK0
theorem pk_us {f : Nat → Int32} {k : Nat} {x : Int32} : upd f k x k = x := if_pos rfl
theorem pk_un {f : Nat → Int32} {k j : Nat} {x : Int32} (h : j ≠ k) : upd f k x j = f j := if_neg h
theorem pk_sub {a b : Nat} (h : b ≤ a) : nI a - nI b = nI (a - b) := by
  obtain ⟨c, rfl⟩ : ∃ c, a = c + b := ⟨a - b, by omega⟩
  rw [← nI_add, Int32.add_sub_cancel, Nat.add_sub_cancel]
theorem pk_m1 (n : Nat) : nI (n + 1) + (-1) = nI n := by
  rw [← nI_1, Int32.add_assoc, show (1 : Int32) + (-1) = 0 from rfl, Int32.add_zero]
theorem pk_mul (a b : Nat) : nI a * nI b = nI (a * b) := (Int32.ofNat_mul a b).symm
theorem pk_div {a d : Nat} (ha : a < 2 ^ 31) (h0 : 0 < d) (hd : d < 2 ^ 31) : nI a / nI d = nI (a / d) := by
  apply Int32.toInt_inj.mp
  rw [lg_idiv_nonneg (by rw [nI_toInt ha]; omega) (by rw [nI_toInt hd]; omega), nI_toInt ha, nI_toInt hd, nI_toInt (Nat.lt_of_le_of_lt (Nat.div_le_self a d) ha)]
  first | rfl | exact (Int.natCast_ediv _ _).symm
theorem pk_rem {a d : Nat} (ha : a < 2 ^ 31) (h0 : 0 < d) (hd : d < 2 ^ 31) : nI a - nI a / nI d * nI d = nI (a % d) := by
  rw [pk_div ha h0 hd, pk_mul, pk_sub (Nat.div_mul_le_self a d)]
  exact congrArg nI (by have := Nat.div_add_mod' a d; omega)
theorem pk_sub_toInt {a b : Nat} (ha : a < 2 ^ 30) (hb : b < 2 ^ 30) : (nI a - nI b).toInt = (a : Int) - b := by
  rw [Int32.toInt_sub, nI_toInt (by omega), nI_toInt (by omega)]
  exact Int.bmod_eq_of_le (by omega) (by omega)
theorem pk_sneg {a b : Nat} (hb : b < 2 ^ 30) (h : a < b) : nI a - nI b < 0 := by
  rw [Int32.lt_iff_toInt_lt, pk_sub_toInt (by omega) hb, show (0 : Int32).toInt = 0 from by decide]
  omega
theorem pk_ix (x : Int32) {n : Nat} (hn : n < 2 ^ 31) : x < 0 ∨ nI n ≤ x ∨ ∃ j : Nat, j < n ∧ x = nI j := by
  by_cases h : x < 0
  · exact Or.inl h
  · obtain ⟨j, hj, rfl⟩ := nI_of h
    by_cases h2 : j < n
    · exact Or.inr (Or.inr ⟨j, h2, rfl⟩)
    · exact Or.inr (Or.inl (nI_le (by omega) hj))
theorem pk_le {x y : Int32} {A B : Prop} (a b : Nat) (f : a ≤ b → A) (g : b < a → B) (hx : x = nI a := by rfl) (hy : y = nI b := by rfl) (ha : a < 2 ^ 31 := by omega) (hb : b < 2 ^ 31 := by omega) : (x ≤ y → A) ∧ (¬ x ≤ y → B) := by
  subst hx hy
  rw [nI_leI ha hb]
  exact ⟨f, fun z => g (by omega)⟩
theorem pk_lt {x y : Int32} {A B : Prop} (a b : Nat) (f : a < b → A) (g : b ≤ a → B) (hx : x = nI a := by rfl) (hy : y = nI b := by rfl) (ha : a < 2 ^ 31 := by omega) (hb : b < 2 ^ 31 := by omega) : (x < y → A) ∧ (¬ x < y → B) := by
  subst hx hy
  rw [nI_ltI ha hb]
  exact ⟨f, fun z => g (by omega)⟩
theorem pk_eq {x y : Int32} {A B : Prop} (a b : Nat) (f : a = b → A) (g : a ≠ b → B) (hx : x = nI a := by rfl) (hy : y = nI b := by rfl) (ha : a < 2 ^ 31 := by omega) (hb : b < 2 ^ 31 := by omega) : (x = y → A) ∧ (¬ x = y → B) := by
  subst hx hy
  rw [nI_eq ha hb]
  exact ⟨f, g⟩
theorem pk_in {x : Int32} (n N : Nat) (h : n < N) (hx : x = nI n := by rfl) (hN : N < 2 ^ 31 := by omega) : vp_in x N := by
  subst hx
  exact vp_in_nI h hN
theorem pk_cl {x : Int32} (n : Nat) (hx : x = nI n := by rfl) (h : n < 2 ^ 31 := by omega) : x.toNatClampNeg = n := by
  subst hx
  exact nI_clamp h
theorem pk_tn {n : Nat} (h : n < 2 ^ 32) : (nI n).toBitVec.toNat = n := Nat.mod_eq_of_lt h
theorem pk_and (x : Int32) {m : Int32} (k : Nat) (hm : m.toBitVec.toNat = 2 ^ k - 1) : x &&& m = nI (x.toBitVec.toNat % 2 ^ k) := by
  apply Int32.toBitVec_inj.mp
  apply BitVec.eq_of_toNat_eq
  rw [Int32.toBitVec_and, BitVec.toNat_and, hm, Nat.and_two_pow_sub_one_eq_mod]
  show _ = (BitVec.ofNat 32 _).toNat
  rw [BitVec.toNat_ofNat]
  exact (Nat.mod_eq_of_lt (Nat.lt_of_le_of_lt (Nat.mod_le _ _) x.toBitVec.isLt)).symm
theorem pk_andN {n : Nat} (h : n < 2 ^ 32) {m : Int32} (k : Nat) (hm : m.toBitVec.toNat = 2 ^ k - 1) : nI n &&& m = nI (n % 2 ^ k) := by
  rw [pk_and _ k hm, pk_tn h]
theorem pk_andE (x : Int32) {m : Int32} (k : Nat) (hm : m.toBitVec.toNat = 2 ^ k - 1) : ∃ j : Nat, j < 2 ^ k ∧ x &&& m = nI j := ⟨_, Nat.mod_lt _ (Nat.two_pow_pos k), pk_and x k hm⟩
theorem pk_andIn (x : Int32) {m : Int32} (k : Nat) (hm : m.toBitVec.toNat = 2 ^ k - 1) (hk : k ≤ 30) : vp_in (x &&& m) (2 ^ k) := by
  obtain ⟨j, hj, e⟩ := pk_andE x k hm
  rw [e]
  exact vp_in_nI hj (Nat.lt_of_le_of_lt (Nat.pow_le_pow_right (by decide) hk) (by decide))
theorem pk_shr (a s : Int32) (k : Nat) (hs : (s.toBitVec.smod 32).toNat = k) : (a >>> s).toInt = a.toInt >>> k := by
  show (a.toBitVec.sshiftRight (s.toBitVec.smod 32).toNat).toInt = _
  rw [hs, BitVec.toInt_sshiftRight]
  rfl
theorem pk_shrN {n : Nat} (h : n < 2 ^ 31) (s : Int32) (k : Nat) (hs : (s.toBitVec.smod 32).toNat = k) : nI n >>> s = nI (n / 2 ^ k) := by
  apply Int32.toInt_inj.mp
  have h2 : n / 2 ^ k ≤ n := Nat.div_le_self _ _
  rw [pk_shr _ _ k hs, nI_toInt h, nI_toInt (by omega), Int.shiftRight_eq_div_pow]
  rfl
theorem pk_loop {σ : Type} (W : Nat → Nat → σ → Prop) (I : Nat → σ → Prop) (e i0 : Nat) (s : σ) (hi : i0 ≤ e) (h0 : I i0 s) (hx : ∀ n s, I e s → W (n + 1) e s)
    (hs : ∀ n i s, i < e → I i s → (∀ s', I (i + 1) s' → W n (i + 1) s') → W (n + 1) i s) : ∃ n, W n i0 s :=
  ⟨e + 1, loop_i W I e hx hs (e + 1) i0 s hi (by omega) h0⟩
theorem pk_loopD {σ : Type} (W : Nat → Nat → σ → Prop) (I : Nat → σ → Prop) (hx : ∀ n s, I 0 s → W (n + 1) 0 s)
    (hs : ∀ n i s, I (i + 1) s → (∀ s', I i s' → W n i s') → W (n + 1) (i + 1) s) : ∀ (e : Nat) (s : σ), I e s → W (e + 1) e s := by
  intro e
  induction e with
  | zero => exact fun s h => hx 0 s h
  | succ e ih => exact fun s h => hs (e + 1) e s h (fun s' h' => ih s' h')
end PK0
end
section
section NM
theorem xr_getD_append_left {α : Type} {l r : List α} {j : Nat} {d : α} (h : j < l.length) : (l ++ r).getD j d = l.getD j d := by
  rw [List.getD_eq_getElem?_getD, List.getElem?_append_left h, ← List.getD_eq_getElem?_getD]
theorem xr_getD_append_here {α : Type} {l : List α} {t d : α} : (l ++ [t]).getD l.length d = t := by
  rw [List.getD_eq_getElem?_getD, List.getElem?_append_right (Nat.le_refl _), Nat.sub_self]
  rfl
/-- the names: eleven cells each -/
def xr_N (nl ch : Nat → Int32) (ns : List (List Nat)) : Prop := ∀ i, i < ns.length → nl i = nI (ns.getD i []).length ∧ ∀ j, j < (ns.getD i []).length → ch (i * 11 + j) = nI ((ns.getD i []).getD j 0)
theorem xr_N_push {nl ch nl' ch' : Nat → Int32} {ns : List (List Nat)} {w : List Nat} (h : xr_N nl ch ns) (hw : ∀ v, v ∈ ns → v.length ≤ 11) (h1 : nl' ns.length = nI w.length) (h2 : ∀ j, j < w.length → ch' (ns.length * 11 + j) = nI (w.getD j 0)) (h3 : ∀ i, i < ns.length → nl' i = nl i) (h4 : ∀ k, k < ns.length * 11 → ch' k = ch k) : xr_N nl' ch' (ns ++ [w]) := by
  intro i hi
  rw [List.length_append] at hi
  simp only [List.length_cons, List.length_nil] at hi
  by_cases e : i = ns.length
  · subst e
    rw [xr_getD_append_here]
    exact ⟨h1, h2⟩
  · have hi' : i < ns.length := by omega
    rw [xr_getD_append_left hi']
    have hm : (ns.getD i []).length ≤ 11 := by
      rw [List.getD_eq_getElem?_getD, List.getElem?_eq_getElem hi']
      exact hw _ (List.getElem_mem hi')
    refine ⟨(h3 i hi').trans (h i hi').1, fun j hj => (h4 _ ?_).trans ((h i hi').2 j hj)⟩
    omega
end NM
end
section
section IX
variable {f_expansionLimit f_expansionCount f_state f_inputLength f_inputPosition f_outputCount f_pendingCount f_namesUsed f_saveCount f_depth f_conditionalCount f_argumentsUsed f_argumentsLimit f_heldCount : Int32} {a_input a_output a_pending a_catcodes a_nameChars a_nameLengths a_meanings a_savedItems a_savedLevels a_savedCatcodes a_conditionals a_arguments a_argumentStarts a_argumentEnds a_held : Nat → Int32}
variable {post : SX → Prop}
theorem ci_10 : ¬ (1 : Int32) = 0 := by decide
/-- the first catcodes -/
def ci_c (j : Nat) : Nat := if (65 ≤ j ∧ j ≤ 90) ∨ (97 ≤ j ∧ j ≤ 122) then 5 else if j < 32 ∨ j = 127 then 7 else 6
def ci_C (j : Nat) : Nat := if j = 32 then 4 else if j = 35 then 3 else if j = 125 then 2 else if j = 123 then 1 else if j = 92 then 0 else ci_c j
theorem ci_five {a : Nat → Int32} (h : ∀ j, j < 128 → a j = nI (ci_c j)) : ∀ j, j < 128 → upd (upd (upd (upd (upd a 92 0) 123 1) 125 2) 35 3) 32 4 j = nI (ci_C j) := by
  intro j hj
  unfold ci_C
  by_cases h1 : j = 32
  · rw [if_pos h1, h1, pk_us]; rfl
  · rw [if_neg h1, pk_un h1]
    by_cases h2 : j = 35
    · rw [if_pos h2, h2, pk_us]; rfl
    · rw [if_neg h2, pk_un h2]
      by_cases h3 : j = 125
      · rw [if_pos h3, h3, pk_us]; rfl
      · rw [if_neg h3, pk_un h3]
        by_cases h4 : j = 123
        · rw [if_pos h4, h4, pk_us]; rfl
        · rw [if_neg h4, pk_un h4]
          by_cases h5 : j = 92
          · rw [if_pos h5, h5, pk_us]; rfl
          · rw [if_neg h5, pk_un h5]
            exact h j hj
theorem ci_up {a : Nat → Int32} {i : Nat} {v : Int32} {f : Nat → Nat} (h : ∀ j, j < i → a j = nI (f j)) (hv : v = nI (f i)) : ∀ j, j < i + 1 → upd a i v j = nI (f j) := by
  intro j hj
  by_cases e : j = i
  · rw [e, pk_us, hv]
  · rw [pk_un e]
    exact h j (by omega)
theorem ci_x (K : ∀ a : Nat → Int32, (∀ j, j < 128 → a j = nI (ci_C j)) → post (f_expansionLimit, f_expansionCount, f_state, f_inputLength, f_inputPosition, f_outputCount, f_pendingCount, f_namesUsed, f_saveCount, f_depth, f_conditionalCount, f_argumentsUsed, f_argumentsLimit, f_heldCount, a_input, a_output, a_pending, a, a_nameChars, a_nameLengths, a_meanings, a_savedItems, a_savedLevels, a_savedCatcodes, a_conditionals, a_arguments, a_argumentStarts, a_argumentEnds, a_held)) : ∀ (n i : Nat) (cat : Nat → Int32), 128 < n + i → i ≤ 128 → (∀ j, j < i → cat j = nI (ci_c j)) → wX_setFirstCatcodes_2 post f_expansionLimit f_expansionCount f_state f_inputLength f_inputPosition f_outputCount f_pendingCount f_namesUsed f_saveCount f_depth f_conditionalCount f_argumentsUsed f_argumentsLimit f_heldCount n (nI i) a_input a_output a_pending cat a_nameChars a_nameLengths a_meanings a_savedItems a_savedLevels a_savedCatcodes a_conditionals a_arguments a_argumentStarts a_argumentEnds a_held := by
  intro n
  induction n with
  | zero => intro i cat h1 h2; omega
  | succ n ih =>
    intro i cat h1 h2 h
    by_cases he : i = 128
    · subst he
      exact br_t (nI_le (Nat.le_refl 128) (by decide)) (nm_e (nm_e (nm_e (nm_e (nm_e (K _ (ci_five h)))))))
    · refine br_f (nI_ge (b := 128) (by omega) (by decide)) ?_
      have leaf : ∀ v : Int32, v = nI (ci_c i) → (vp_in (nI i) 128 ∧ ∀ a : Nat → Int32, a = upd cat (nI i).toNatClampNeg v → ∀ y : Int32, y = nI i + 1 → wX_setFirstCatcodes_2 post f_expansionLimit f_expansionCount f_state f_inputLength f_inputPosition f_outputCount f_pendingCount f_namesUsed f_saveCount f_depth f_conditionalCount f_argumentsUsed f_argumentsLimit f_heldCount n y a_input a_output a_pending a a_nameChars a_nameLengths a_meanings a_savedItems a_savedLevels a_savedCatcodes a_conditionals a_arguments a_argumentStarts a_argumentEnds a_held) := fun v hv => by
        refine ⟨vp_in_nI (by omega) (by decide), fun a ea y ey => ?_⟩
        rw [ea, ey, nI_1, nI_clamp (by omega)]
        exact ih (i + 1) _ (by omega) (by omega) (ci_up h hv)
      have c65 : (nI i < 65) ↔ i < 65 := nI_ltI (b := 65) (by omega) (by decide)
      have c90 : (nI i ≤ 90) ↔ i ≤ 90 := nI_leI (b := 90) (by omega) (by decide)
      have c97 : (nI i < 97) ↔ i < 97 := nI_ltI (b := 97) (by omega) (by decide)
      have c122 : (122 < nI i) ↔ 122 < i := nI_ltI (a := 122) (by decide) (by omega)
      have c32 : (nI i < 32) ↔ i < 32 := nI_ltI (b := 32) (by omega) (by decide)
      have c127 : (nI i = 127) ↔ i = 127 := nI_eq (b := 127) (by omega) (by decide)
      unfold wX_setFirstCatcodes_21 wX_setFirstCatcodes_33 wX_setFirstCatcodes_37 wX_setFirstCatcodes_38 wX_setFirstCatcodes_51 wX_setFirstCatcodes_56
      rw [c65, c90, c97, c122, c32, c127]
      repeat' (first | (refine leaf _ ?_) | (refine And.intro (fun _ => ?_) (fun _ => ?_)))
      all_goals (unfold ci_c; repeat' split)
      all_goals (first | rfl | (exfalso; omega) | exact absurd ‹(1 : Int32) = 0› ci_10 | exact absurd rfl ‹¬ (0 : Int32) = 0›)
/-- names: eleven cells each -/
def ci_XN (nl ch : Nat → Int32) (ns : List (List Nat)) : Prop := xr_N nl ch ns ∧ ∀ i, ns.length ≤ i → nl i = 0
def ci_ext (w : List Nat) (c : Nat) : List Nat := if c = 0 then w else w ++ [c]
theorem ci_add {A : List (List Nat)} {w : List Nat} {c : Nat} (hN : ci_XN a_nameLengths a_nameChars (A ++ [w])) (hA : A.length < 32) (hw : w.length < 11) (h11 : ∀ v, v ∈ A → v.length ≤ 11) (hc : c < 128)
    (K : ∀ nl ch : Nat → Int32, ci_XN nl ch (A ++ [ci_ext w c]) → post (f_expansionLimit, f_expansionCount, f_state, f_inputLength, f_inputPosition, f_outputCount, f_pendingCount, nI (A.length + 1), f_saveCount, f_depth, f_conditionalCount, f_argumentsUsed, f_argumentsLimit, f_heldCount, a_input, a_output, a_pending, a_catcodes, ch, nl, a_meanings, a_savedItems, a_savedLevels, a_savedCatcodes, a_conditionals, a_arguments, a_argumentStarts, a_argumentEnds, a_held)) : wpX_addCharToLastName post (f_expansionLimit, f_expansionCount, f_state, f_inputLength, f_inputPosition, f_outputCount, f_pendingCount, nI (A.length + 1), f_saveCount, f_depth, f_conditionalCount, f_argumentsUsed, f_argumentsLimit, f_heldCount, a_input, a_output, a_pending, a_catcodes, a_nameChars, a_nameLengths, a_meanings, a_savedItems, a_savedLevels, a_savedCatcodes, a_conditionals, a_arguments, a_argumentStarts, a_argumentEnds, a_held) (nI c) := by
  have hl := hN.1 A.length (by rw [List.length_append]; exact Nat.lt_succ_self _)
  rw [xr_getD_append_here] at hl
  have e : nI (A.length + 1) - 1 = nI A.length := nI_pred _
  unfold wpX_addCharToLastName
  refine nm_r e ?_
  by_cases h0 : c = 0
  · subst h0
    refine br_t rfl ?_
    have := K a_nameLengths a_nameChars (by unfold ci_ext; rw [if_pos rfl]; exact hN)
    exact this
  · refine br_f (fun z => h0 ((nI_eq (b := 0) (by omega) (by decide)).mp z)) ?_
    have v : vp_in (nI A.length) 32 := vp_in_nI hA (by decide)
    have cl : (nI A.length).toNatClampNeg = A.length := nI_clamp (by omega)
    refine ⟨v, ?_⟩
    rw [cl, hl.1]
    have ix : nI A.length * 11 + nI w.length = nI (A.length * 11 + w.length) := by rw [← nI_add, ← pk_mul]; rfl
    rw [ix]
    refine br_f (nI_ge (b := 11) hw (by decide)) ⟨v, vp_in_nI (by omega) (by decide), fun ch ech => ⟨v, v, fun nl enl => ?_⟩⟩
    rw [nI_clamp (by omega)] at ech
    rw [nI_1] at enl
    refine K nl ch ⟨?_, fun i hi => ?_⟩
    · unfold ci_ext
      rw [if_neg h0]
      have hA' : xr_N a_nameLengths a_nameChars A := fun i hi => by
        have := hN.1 i (by rw [List.length_append]; omega)
        rw [xr_getD_append_left hi] at this
        exact this
      refine xr_N_push hA' h11 ?_ (fun j hj => ?_) (fun i hi => ?_) (fun k hk => ?_)
      · rw [enl, pk_us, List.length_append]; rfl
      · rw [ech]
        rw [List.length_append] at hj
        simp only [List.length_cons, List.length_nil] at hj
        by_cases ej : j = w.length
        · subst ej
          rw [pk_us, xr_getD_append_here]
        · rw [pk_un (by omega), xr_getD_append_left (by omega)]
          exact hl.2 j (by omega)
      · rw [enl, pk_un (by omega)]
      · rw [ech, pk_un (by omega)]
    · rw [List.length_append] at hi
      simp only [List.length_cons, List.length_nil] at hi
      rw [enl, pk_un (by omega)]
      exact hN.2 i (by rw [List.length_append]; simp only [List.length_cons, List.length_nil]; omega)
theorem ci_ext_l {w : List Nat} {c : Nat} : (ci_ext w c).length ≤ w.length + 1 := by
  unfold ci_ext
  split
  · omega
  · rw [List.length_append]; exact Nat.le_refl _
theorem ci_len {A : List (List Nat)} {w : List Nat} {c1 c2 c3 c4 : Nat} (hN : ci_XN a_nameLengths a_nameChars (A ++ [w])) (hA : A.length < 32) (hw : w.length + 4 ≤ 11) (h11 : ∀ v, v ∈ A → v.length ≤ 11) (h1 : c1 < 128) (h2 : c2 < 128) (h3 : c3 < 128) (h4 : c4 < 128)
    (K : ∀ nl ch : Nat → Int32, ci_XN nl ch (A ++ [ci_ext (ci_ext (ci_ext (ci_ext w c1) c2) c3) c4]) → post (f_expansionLimit, f_expansionCount, f_state, f_inputLength, f_inputPosition, f_outputCount, f_pendingCount, nI (A.length + 1), f_saveCount, f_depth, f_conditionalCount, f_argumentsUsed, f_argumentsLimit, f_heldCount, a_input, a_output, a_pending, a_catcodes, ch, nl, a_meanings, a_savedItems, a_savedLevels, a_savedCatcodes, a_conditionals, a_arguments, a_argumentStarts, a_argumentEnds, a_held)) : wpX_lengthenLastName post (f_expansionLimit, f_expansionCount, f_state, f_inputLength, f_inputPosition, f_outputCount, f_pendingCount, nI (A.length + 1), f_saveCount, f_depth, f_conditionalCount, f_argumentsUsed, f_argumentsLimit, f_heldCount, a_input, a_output, a_pending, a_catcodes, a_nameChars, a_nameLengths, a_meanings, a_savedItems, a_savedLevels, a_savedCatcodes, a_conditionals, a_arguments, a_argumentStarts, a_argumentEnds, a_held) (nI c1) (nI c2) (nI c3) (nI c4) := by
  unfold wpX_lengthenLastName
  have l1 := ci_ext_l (w := w) (c := c1)
  have l2 := ci_ext_l (w := ci_ext w c1) (c := c2)
  have l3 := ci_ext_l (w := ci_ext (ci_ext w c1) c2) (c := c3)
  refine ci_add hN hA (by omega) h11 h1 fun nl ch hN => ?_
  refine ci_add hN hA (by omega) h11 h2 fun nl ch hN => ?_
  refine ci_add hN hA (by omega) h11 h3 fun nl ch hN => ?_
  exact ci_add hN hA (by omega) h11 h4 K
/-- the first meanings -/
def ci_MM (mm : Nat → Int32) (k : Nat) : Prop := ∀ j, mm j = if j < k * 36 then (if j % 36 = 0 then 1 else if j % 36 = 1 then nI (j / 36) else 0) else 0
theorem ci_MM_s {mm : Nat → Int32} {k : Nat} (h : ci_MM mm k) : ci_MM (upd (upd mm (k * 36) 1) (k * 36 + 1) (nI k)) (k + 1) := by
  intro j
  by_cases e1 : j = k * 36 + 1
  · rw [e1, pk_us, if_pos (by omega), if_neg (by omega), if_pos (by omega), show (k * 36 + 1) / 36 = k from by omega]
  · rw [pk_un e1]
    by_cases e0 : j = k * 36
    · rw [e0, pk_us, if_pos (by omega), if_pos (by omega)]
    · rw [pk_un e0, h j]
      by_cases hj : j < k * 36
      · have hj2 : j < (k + 1) * 36 := by omega
        rw [if_pos hj, if_pos hj2]
      · rw [if_neg hj]
        by_cases hj2 : j < (k + 1) * 36
        · rw [if_pos hj2, if_neg (by omega), if_neg (by omega)]
        · rw [if_neg hj2]
theorem ci_prim {A : List (List Nat)} {c1 c2 c3 c4 c5 c6 c7 : Nat} (hN : ci_XN a_nameLengths a_nameChars A) (hM : ci_MM a_meanings A.length) (hA : A.length < 32) (h11 : ∀ v, v ∈ A → v.length ≤ 11) (h1 : c1 < 128) (h2 : c2 < 128) (h3 : c3 < 128) (h4 : c4 < 128) (h5 : c5 < 128) (h6 : c6 < 128) (h7 : c7 < 128)
    (K : ∀ nl ch mm : Nat → Int32, ci_XN nl ch (A ++ [ci_ext (ci_ext (ci_ext (ci_ext (ci_ext (ci_ext (ci_ext (ci_ext [] c1) c2) c3) c4) c5) c6) c7) 0]) → ci_MM mm (A.length + 1) → post (f_expansionLimit, f_expansionCount, f_state, f_inputLength, f_inputPosition, f_outputCount, f_pendingCount, nI (A.length + 1), f_saveCount, f_depth, f_conditionalCount, f_argumentsUsed, f_argumentsLimit, f_heldCount, a_input, a_output, a_pending, a_catcodes, ch, nl, mm, a_savedItems, a_savedLevels, a_savedCatcodes, a_conditionals, a_arguments, a_argumentStarts, a_argumentEnds, a_held)) : wpX_addPrimitive post (f_expansionLimit, f_expansionCount, f_state, f_inputLength, f_inputPosition, f_outputCount, f_pendingCount, nI A.length, f_saveCount, f_depth, f_conditionalCount, f_argumentsUsed, f_argumentsLimit, f_heldCount, a_input, a_output, a_pending, a_catcodes, a_nameChars, a_nameLengths, a_meanings, a_savedItems, a_savedLevels, a_savedCatcodes, a_conditionals, a_arguments, a_argumentStarts, a_argumentEnds, a_held) (nI c1) (nI c2) (nI c3) (nI c4) (nI c5) (nI c6) (nI c7) := by
  unfold wpX_addPrimitive
  have i0 : nI A.length * 36 + 0 = nI (A.length * 36) := by
    have : nI A.length * 36 = nI (A.length * 36) := pk_mul _ 36
    rw [this]; exact nI_add _ 0
  have i1 : nI A.length * 36 + 1 = nI (A.length * 36 + 1) := by
    have : nI A.length * 36 = nI (A.length * 36) := pk_mul _ 36
    rw [this]; exact nI_1 _
  refine ⟨by rw [i0]; exact vp_in_nI (by omega) (by decide), fun m1 e1 => ⟨by rw [i1]; exact vp_in_nI (by omega) (by decide), fun m2 e2 => nm_r (nI_1 _) ?_⟩⟩
  rw [i0, nI_clamp (by omega)] at e1
  rw [i1, nI_clamp (by omega)] at e2
  subst e1
  have hM2 : ci_MM m2 (A.length + 1) := by rw [e2]; exact ci_MM_s hM
  have hN0 : ci_XN a_nameLengths a_nameChars (A ++ [[]]) := by
    refine ⟨fun i hi => ?_, fun i hi => hN.2 i ?_⟩
    · rw [List.length_append] at hi
      simp only [List.length_cons, List.length_nil] at hi
      by_cases e : i = A.length
      · subst e
        rw [xr_getD_append_here]
        exact ⟨hN.2 _ (Nat.le_refl _), fun j hj => absurd hj (Nat.not_lt_zero _)⟩
      · rw [xr_getD_append_left (by omega)]
        exact hN.1 i (by omega)
    · rw [List.length_append] at hi
      omega
  have l1 := ci_ext_l (w := []) (c := c1)
  have l2 := ci_ext_l (w := ci_ext [] c1) (c := c2)
  have l3 := ci_ext_l (w := ci_ext (ci_ext [] c1) c2) (c := c3)
  have l4 := ci_ext_l (w := ci_ext (ci_ext (ci_ext [] c1) c2) c3) (c := c4)
  have l0 : ([] : List Nat).length = 0 := rfl
  refine ci_len hN0 hA (by decide) h11 h1 h2 h3 h4 fun nl ch hN1 => ?_
  refine ci_len hN1 hA (by omega) h11 h5 h6 h7 (show 0 < 128 by decide) fun nl ch hN2 => ?_
  exact K nl ch m2 hN2 hM2
end IX
section IX2
variable {f_expansionLimit f_expansionCount f_state f_inputLength f_inputPosition f_outputCount f_pendingCount f_namesUsed f_saveCount f_depth f_conditionalCount f_argumentsUsed f_argumentsLimit f_heldCount : Int32} {a_input a_output a_pending a_catcodes a_nameChars a_nameLengths a_meanings a_savedItems a_savedLevels a_savedCatcodes a_conditionals a_arguments a_argumentStarts a_argumentEnds a_held : Nat → Int32}
variable {post : SX → Prop}
/-- the first names -/
def ci_ns : List (List Nat) := [[100, 101, 102], [103, 100, 101, 102], [108, 101, 116], [103, 108, 101, 116], [101, 120, 112, 97, 110, 100, 97, 102, 116, 101, 114], [98, 101, 103, 105, 110, 103, 114, 111, 117, 112], [101, 110, 100, 103, 114, 111, 117, 112], [99, 97, 116, 99, 111, 100, 101], [103, 99, 97, 116, 99, 111, 100, 101], [105, 102, 116, 114, 117, 101], [105, 102, 102, 97, 108, 115, 101], [105, 102, 120], [101, 108, 115, 101], [102, 105]]
theorem ci_all (hN : ci_XN a_nameLengths a_nameChars []) (hM : ci_MM a_meanings 0)
    (K : ∀ nl ch mm : Nat → Int32, ci_XN nl ch ci_ns → ci_MM mm 14 → post (f_expansionLimit, f_expansionCount, f_state, f_inputLength, f_inputPosition, f_outputCount, f_pendingCount, 14, f_saveCount, f_depth, f_conditionalCount, f_argumentsUsed, f_argumentsLimit, f_heldCount, a_input, a_output, a_pending, a_catcodes, ch, nl, mm, a_savedItems, a_savedLevels, a_savedCatcodes, a_conditionals, a_arguments, a_argumentStarts, a_argumentEnds, a_held)) : wpX_addAllPrimitives post (f_expansionLimit, f_expansionCount, f_state, f_inputLength, f_inputPosition, f_outputCount, f_pendingCount, 0, f_saveCount, f_depth, f_conditionalCount, f_argumentsUsed, f_argumentsLimit, f_heldCount, a_input, a_output, a_pending, a_catcodes, a_nameChars, a_nameLengths, a_meanings, a_savedItems, a_savedLevels, a_savedCatcodes, a_conditionals, a_arguments, a_argumentStarts, a_argumentEnds, a_held) := by
  unfold wpX_addAllPrimitives
  refine ci_prim (A := []) (c1 := 100) (c2 := 101) (c3 := 102) (c4 := 0) (c5 := 0) (c6 := 0) (c7 := 0) hN hM (by decide) (by decide) (by decide) (by decide) (by decide) (by decide) (by decide) (by decide) (by decide) fun nl ch mm hN hM => ?_
  refine ci_prim (A := [[100, 101, 102]]) (c1 := 103) (c2 := 100) (c3 := 101) (c4 := 102) (c5 := 0) (c6 := 0) (c7 := 0) hN hM (by decide) (by decide) (by decide) (by decide) (by decide) (by decide) (by decide) (by decide) (by decide) fun nl ch mm hN hM => ?_
  refine ci_prim (A := ci_ns.take 2) (c1 := 108) (c2 := 101) (c3 := 116) (c4 := 0) (c5 := 0) (c6 := 0) (c7 := 0) hN hM (by decide) (by decide) (by decide) (by decide) (by decide) (by decide) (by decide) (by decide) (by decide) fun nl ch mm hN hM => ?_
  refine ci_prim (A := ci_ns.take 3) (c1 := 103) (c2 := 108) (c3 := 101) (c4 := 116) (c5 := 0) (c6 := 0) (c7 := 0) hN hM (by decide) (by decide) (by decide) (by decide) (by decide) (by decide) (by decide) (by decide) (by decide) fun nl ch mm hN hM => ?_
  refine ci_prim (A := ci_ns.take 4) (c1 := 101) (c2 := 120) (c3 := 112) (c4 := 97) (c5 := 110) (c6 := 100) (c7 := 97) hN hM (by decide) (by decide) (by decide) (by decide) (by decide) (by decide) (by decide) (by decide) (by decide) fun nl ch mm hN hM => ?_
  refine ci_len (A := ci_ns.take 4) (w := [101, 120, 112, 97, 110, 100, 97]) (c1 := 102) (c2 := 116) (c3 := 101) (c4 := 114) hN (by decide) (by decide) (by decide) (by decide) (by decide) (by decide) (by decide) fun nl ch hN => ?_
  refine ci_prim (A := ci_ns.take 5) (c1 := 98) (c2 := 101) (c3 := 103) (c4 := 105) (c5 := 110) (c6 := 103) (c7 := 114) hN hM (by decide) (by decide) (by decide) (by decide) (by decide) (by decide) (by decide) (by decide) (by decide) fun nl ch mm hN hM => ?_
  refine ci_len (A := ci_ns.take 5) (w := [98, 101, 103, 105, 110, 103, 114]) (c1 := 111) (c2 := 117) (c3 := 112) (c4 := 0) hN (by decide) (by decide) (by decide) (by decide) (by decide) (by decide) (by decide) fun nl ch hN => ?_
  refine ci_prim (A := ci_ns.take 6) (c1 := 101) (c2 := 110) (c3 := 100) (c4 := 103) (c5 := 114) (c6 := 111) (c7 := 117) hN hM (by decide) (by decide) (by decide) (by decide) (by decide) (by decide) (by decide) (by decide) (by decide) fun nl ch mm hN hM => ?_
  refine ci_len (A := ci_ns.take 6) (w := [101, 110, 100, 103, 114, 111, 117]) (c1 := 112) (c2 := 0) (c3 := 0) (c4 := 0) hN (by decide) (by decide) (by decide) (by decide) (by decide) (by decide) (by decide) fun nl ch hN => ?_
  refine ci_prim (A := ci_ns.take 7) (c1 := 99) (c2 := 97) (c3 := 116) (c4 := 99) (c5 := 111) (c6 := 100) (c7 := 101) hN hM (by decide) (by decide) (by decide) (by decide) (by decide) (by decide) (by decide) (by decide) (by decide) fun nl ch mm hN hM => ?_
  refine ci_prim (A := ci_ns.take 8) (c1 := 103) (c2 := 99) (c3 := 97) (c4 := 116) (c5 := 99) (c6 := 111) (c7 := 100) hN hM (by decide) (by decide) (by decide) (by decide) (by decide) (by decide) (by decide) (by decide) (by decide) fun nl ch mm hN hM => ?_
  refine ci_len (A := ci_ns.take 8) (w := [103, 99, 97, 116, 99, 111, 100]) (c1 := 101) (c2 := 0) (c3 := 0) (c4 := 0) hN (by decide) (by decide) (by decide) (by decide) (by decide) (by decide) (by decide) fun nl ch hN => ?_
  refine ci_prim (A := ci_ns.take 9) (c1 := 105) (c2 := 102) (c3 := 116) (c4 := 114) (c5 := 117) (c6 := 101) (c7 := 0) hN hM (by decide) (by decide) (by decide) (by decide) (by decide) (by decide) (by decide) (by decide) (by decide) fun nl ch mm hN hM => ?_
  refine ci_prim (A := ci_ns.take 10) (c1 := 105) (c2 := 102) (c3 := 102) (c4 := 97) (c5 := 108) (c6 := 115) (c7 := 101) hN hM (by decide) (by decide) (by decide) (by decide) (by decide) (by decide) (by decide) (by decide) (by decide) fun nl ch mm hN hM => ?_
  refine ci_prim (A := ci_ns.take 11) (c1 := 105) (c2 := 102) (c3 := 120) (c4 := 0) (c5 := 0) (c6 := 0) (c7 := 0) hN hM (by decide) (by decide) (by decide) (by decide) (by decide) (by decide) (by decide) (by decide) (by decide) fun nl ch mm hN hM => ?_
  refine ci_prim (A := ci_ns.take 12) (c1 := 101) (c2 := 108) (c3 := 115) (c4 := 101) (c5 := 0) (c6 := 0) (c7 := 0) hN hM (by decide) (by decide) (by decide) (by decide) (by decide) (by decide) (by decide) (by decide) (by decide) fun nl ch mm hN hM => ?_
  refine ci_prim (A := ci_ns.take 13) (c1 := 102) (c2 := 105) (c3 := 0) (c4 := 0) (c5 := 0) (c6 := 0) (c7 := 0) hN hM (by decide) (by decide) (by decide) (by decide) (by decide) (by decide) (by decide) (by decide) (by decide) fun nl ch mm hN hM => ?_
  exact K nl ch mm hN hM
theorem ci_MM0 : ci_MM (fun _ => 0) 0 := fun j => (if_neg (by omega)).symm
theorem ci_XN0 : ci_XN (fun _ => 0) (fun _ => 0) [] := ⟨fun i hi => absurd hi (Nat.not_lt_zero _), fun _ _ => rfl⟩
/-- the state that the constructor leaves -/
def ci_SX (L : Int32) (u : SX) : Prop := ∃ cat nl ch mm : Nat → Int32, (∀ j, j < 128 → cat j = nI (ci_C j)) ∧ ci_XN nl ch ci_ns ∧ ci_MM mm 14 ∧ u = (L, 0, 0, 0, 0, 0, 0, 14, 0, 0, 0, 0, 0, 0, (fun _ => 0), (fun _ => 0), (fun _ => 0), cat, ch, nl, mm, (fun _ => 0), (fun _ => 0), (fun _ => 0), (fun _ => 0), (fun _ => 0), (fun _ => 0), (fun _ => 0), (fun _ => 0))
theorem ci_230 {L : Int32} (K : ∀ u, ci_SX L u → post u) : wX_init_230 post L 0 0 0 0 0 0 0 0 0 0 0 0 0 (fun _ => 0) (fun _ => 0) (fun _ => 0) (fun _ => 0) (fun _ => 0) (fun _ => 0) (fun _ => 0) (fun _ => 0) (fun _ => 0) (fun _ => 0) (fun _ => 0) (fun _ => 0) (fun _ => 0) (fun _ => 0) (fun _ => 0) := by
  unfold wX_init_230 wpX_setFirstCatcodes
  refine ⟨129, ci_x (fun cat hc => ?_) 129 0 (fun _ => 0) (by decide) (by decide) (fun j hj => absurd hj (Nat.not_lt_zero _))⟩
  refine ci_all ci_XN0 ci_MM0 fun nl ch mm hN hM => ?_
  exact K _ ⟨cat, nl, ch, mm, hc, hN, hM, rfl⟩
/-- the limit as it is kept -/
def ci_lim (k0 : Int32) : Int32 := if 1 ≤ k0 then (if k0 ≤ 100 then k0 else 100) else 1
theorem ci_initX {k0 : Int32} (K : ∀ u, ci_SX (ci_lim k0) u → post u) : wpX_init post k0 := by
  unfold wpX_init
  unfold ci_lim at K
  refine br_c (fun h1 => br_c (fun h2 => ?_) (fun h2 => ?_)) (fun h1 => ?_)
  · rw [if_pos h1, if_pos h2] at K
    exact ci_230 K
  · rw [if_pos h1, if_neg h2] at K
    exact ci_230 K
  · rw [if_neg h1] at K
    exact ci_230 K
end IX2
end
section
section IY
variable {f_limit f_used f_st f_ran f_inLen f_inPos f_pl f_ol f_nc f_sc f_yd f_cd : Int32} {a_in a_cat a_pend a_out a_nLen a_nCh a_kind a_val a_plen a_rlen a_ptx a_rtx a_sItem a_sLev a_conds a_arg a_aSt a_aLn a_stk : Nat → Int32}
variable {post : SY → Prop}
/-- the reference's names: twelve cells each -/
def yr_N (nl ch : Nat → Int32) (ns : List (List Nat)) : Prop := ∀ i, i < ns.length → nl i = nI (ns.getD i []).length ∧ ∀ j, j < (ns.getD i []).length → ch (i * 12 + j) = nI ((ns.getD i []).getD j 0)
theorem yr_N_push {nl ch nl' ch' : Nat → Int32} {ns : List (List Nat)} {w : List Nat} (h : yr_N nl ch ns) (hw : ∀ v, v ∈ ns → v.length ≤ 11) (h1 : nl' ns.length = nI w.length) (h2 : ∀ j, j < w.length → ch' (ns.length * 12 + j) = nI (w.getD j 0)) (h3 : ∀ i, i < ns.length → nl' i = nl i) (h4 : ∀ k, k < ns.length * 12 → ch' k = ch k) : yr_N nl' ch' (ns ++ [w]) := by
  intro i hi
  rw [List.length_append] at hi
  simp only [List.length_cons, List.length_nil] at hi
  by_cases e : i = ns.length
  · subst e
    rw [xr_getD_append_here]
    exact ⟨h1, h2⟩
  · have hi' : i < ns.length := by omega
    rw [xr_getD_append_left hi']
    have hm : (ns.getD i []).length ≤ 11 := by
      rw [List.getD_eq_getElem?_getD, List.getElem?_eq_getElem hi']
      exact hw _ (List.getElem_mem hi')
    refine ⟨(h3 i hi').trans (h i hi').1, fun j hj => (h4 _ ?_).trans ((h i hi').2 j hj)⟩
    omega
def cj_YN (nl ch : Nat → Int32) (ns : List (List Nat)) : Prop := yr_N nl ch ns ∧ ∀ i, ns.length ≤ i → nl i = 0
theorem cj_ap {A : List (List Nat)} {w : List Nat} {c : Nat} (hN : cj_YN a_nLen a_nCh (A ++ [w])) (hA : A.length < 32) (hw' : c ≠ 0 → w.length < 11) (h11 : ∀ v, v ∈ A → v.length ≤ 11) (hc : c < 128)
    (K : ∀ nl ch : Nat → Int32, cj_YN nl ch (A ++ [ci_ext w c]) → post (f_limit, f_used, f_st, f_ran, f_inLen, f_inPos, f_pl, f_ol, f_nc, f_sc, f_yd, f_cd, a_in, a_cat, a_pend, a_out, nl, ch, a_kind, a_val, a_plen, a_rlen, a_ptx, a_rtx, a_sItem, a_sLev, a_conds, a_arg, a_aSt, a_aLn, a_stk)) : wpY_ap post (f_limit, f_used, f_st, f_ran, f_inLen, f_inPos, f_pl, f_ol, f_nc, f_sc, f_yd, f_cd, a_in, a_cat, a_pend, a_out, a_nLen, a_nCh, a_kind, a_val, a_plen, a_rlen, a_ptx, a_rtx, a_sItem, a_sLev, a_conds, a_arg, a_aSt, a_aLn, a_stk) (nI A.length) (nI c) := by
  have hl := hN.1 A.length (by rw [List.length_append]; exact Nat.lt_succ_self _)
  rw [xr_getD_append_here] at hl
  unfold wpY_ap
  by_cases h0 : c = 0
  · subst h0
    refine br_t rfl ?_
    have := K a_nLen a_nCh (by unfold ci_ext; rw [if_pos rfl]; exact hN)
    exact this
  · have hw := hw' h0
    refine br_f (fun z => h0 ((nI_eq (b := 0) (by omega) (by decide)).mp z)) ?_
    have v : vp_in (nI A.length) 32 := vp_in_nI hA (by decide)
    have cl : (nI A.length).toNatClampNeg = A.length := nI_clamp (by omega)
    have ix : nI A.length * 12 + nI w.length = nI (A.length * 12 + w.length) := by rw [← nI_add, ← pk_mul]; rfl
    rw [cl, hl.1, ix]
    refine ⟨v, vp_in_nI (by omega) (by decide), fun ch ech => ⟨v, v, fun nl enl => ?_⟩⟩
    rw [nI_clamp (by omega)] at ech
    rw [nI_1] at enl
    refine K nl ch ⟨?_, fun i hi => ?_⟩
    · unfold ci_ext
      rw [if_neg h0]
      have hA' : yr_N a_nLen a_nCh A := fun i hi => by
        have := hN.1 i (by rw [List.length_append]; omega)
        rw [xr_getD_append_left hi] at this
        exact this
      refine yr_N_push hA' h11 ?_ (fun j hj => ?_) (fun i hi => ?_) (fun k hk => ?_)
      · rw [enl, pk_us, List.length_append]; rfl
      · rw [ech]
        rw [List.length_append] at hj
        simp only [List.length_cons, List.length_nil] at hj
        by_cases ej : j = w.length
        · subst ej
          rw [pk_us, xr_getD_append_here]
        · rw [pk_un (by omega), xr_getD_append_left (by omega)]
          exact hl.2 j (by omega)
      · rw [enl, pk_un (by omega)]
      · rw [ech, pk_un (by omega)]
    · rw [List.length_append] at hi
      simp only [List.length_cons, List.length_nil] at hi
      rw [enl, pk_un (by omega)]
      exact hN.2 i (by rw [List.length_append]; simp only [List.length_cons, List.length_nil]; omega)
theorem cj_nm {A : List (List Nat)} {w : List Nat} {c1 c2 c3 c4 c5 c6 : Nat} (hN : cj_YN a_nLen a_nCh (A ++ [w])) (hA : A.length < 32) (hw : w.length + 6 ≤ 11 ∨ (w.length + 5 ≤ 11 ∧ c6 = 0)) (h11 : ∀ v, v ∈ A → v.length ≤ 11) (h1 : c1 < 128) (h2 : c2 < 128) (h3 : c3 < 128) (h4 : c4 < 128) (h5 : c5 < 128) (h6 : c6 < 128)
    (K : ∀ nl ch : Nat → Int32, cj_YN nl ch (A ++ [ci_ext (ci_ext (ci_ext (ci_ext (ci_ext (ci_ext w c1) c2) c3) c4) c5) c6]) → post (f_limit, f_used, f_st, f_ran, f_inLen, f_inPos, f_pl, f_ol, f_nc, f_sc, f_yd, f_cd, a_in, a_cat, a_pend, a_out, nl, ch, a_kind, a_val, a_plen, a_rlen, a_ptx, a_rtx, a_sItem, a_sLev, a_conds, a_arg, a_aSt, a_aLn, a_stk)) : wpY_nm post (f_limit, f_used, f_st, f_ran, f_inLen, f_inPos, f_pl, f_ol, f_nc, f_sc, f_yd, f_cd, a_in, a_cat, a_pend, a_out, a_nLen, a_nCh, a_kind, a_val, a_plen, a_rlen, a_ptx, a_rtx, a_sItem, a_sLev, a_conds, a_arg, a_aSt, a_aLn, a_stk) (nI A.length) (nI c1) (nI c2) (nI c3) (nI c4) (nI c5) (nI c6) := by
  unfold wpY_nm
  have l1 := ci_ext_l (w := w) (c := c1)
  have l2 := ci_ext_l (w := ci_ext w c1) (c := c2)
  have l3 := ci_ext_l (w := ci_ext (ci_ext w c1) c2) (c := c3)
  have l4 := ci_ext_l (w := ci_ext (ci_ext (ci_ext w c1) c2) c3) (c := c4)
  have l5 := ci_ext_l (w := ci_ext (ci_ext (ci_ext (ci_ext w c1) c2) c3) c4) (c := c5)
  refine cj_ap hN hA (by omega) h11 h1 fun nl ch hN => ?_
  refine cj_ap hN hA (by omega) h11 h2 fun nl ch hN => ?_
  refine cj_ap hN hA (by omega) h11 h3 fun nl ch hN => ?_
  refine cj_ap hN hA (by omega) h11 h4 fun nl ch hN => ?_
  refine cj_ap hN hA (by omega) h11 h5 fun nl ch hN => ?_
  exact cj_ap hN hA (by omega) h11 h6 K
theorem cj_new {nl ch : Nat → Int32} {A : List (List Nat)} (hN : cj_YN nl ch A) : cj_YN nl ch (A ++ [[]]) := by
  refine ⟨fun i hi => ?_, fun i hi => hN.2 i ?_⟩
  · rw [List.length_append] at hi
    simp only [List.length_cons, List.length_nil] at hi
    by_cases e : i = A.length
    · subst e
      rw [xr_getD_append_here]
      exact ⟨hN.2 _ (Nat.le_refl _), fun j hj => absurd hj (Nat.not_lt_zero _)⟩
    · rw [xr_getD_append_left (by omega)]
      exact hN.1 i (by omega)
  · rw [List.length_append] at hi
    omega
/-- the first meanings of the reference -/
def cj_KV (kd vl : Nat → Int32) (k : Nat) : Prop := ∀ j, kd j = (if j < k then 1 else 0) ∧ vl j = if j < k then nI j else 0
theorem cj_KV_s {kd vl : Nat → Int32} {k : Nat} (h : cj_KV kd vl k) : cj_KV (upd kd k 1) (upd vl k (nI k)) (k + 1) := by
  intro j
  by_cases e : j = k
  · rw [e, pk_us, pk_us, if_pos (by omega), if_pos (by omega)]
    exact ⟨rfl, rfl⟩
  · rw [pk_un e, pk_un e, (h j).1, (h j).2]
    by_cases hj : j < k
    · rw [if_pos hj, if_pos hj, if_pos (by omega), if_pos (by omega)]
      exact ⟨rfl, rfl⟩
    · rw [if_neg hj, if_neg hj, if_neg (by omega), if_neg (by omega)]
      exact ⟨rfl, rfl⟩
theorem cj_names (hN : cj_YN a_nLen a_nCh []) : ∀ (n i : Nat) (kd vl : Nat → Int32), 14 < n + i → i ≤ 14 → cj_KV kd vl i →
    (∀ nl ch kd vl : Nat → Int32, cj_YN nl ch ci_ns → cj_KV kd vl 14 → post (f_limit, f_used, f_st, f_ran, f_inLen, f_inPos, f_pl, f_ol, 14, f_sc, f_yd, f_cd, a_in, a_cat, a_pend, a_out, nl, ch, kd, vl, a_plen, a_rlen, a_ptx, a_rtx, a_sItem, a_sLev, a_conds, a_arg, a_aSt, a_aLn, a_stk)) → wY_init_298 post f_limit f_used f_st f_ran f_inLen f_inPos f_pl f_ol f_nc f_sc f_yd f_cd n (nI i) a_in a_cat a_pend a_out a_nLen a_nCh kd vl a_plen a_rlen a_ptx a_rtx a_sItem a_sLev a_conds a_arg a_aSt a_aLn a_stk := by
  intro n
  induction n with
  | zero => intro i kd vl h1 h2; omega
  | succ n ih =>
    intro i kd vl h1 h2 hkv KK
    by_cases he : i = 14
    · subst he
      refine br_t (nI_le (Nat.le_refl 14) (by decide)) ?_
      refine cj_nm (A := []) (w := []) (c1 := 100) (c2 := 101) (c3 := 102) (c4 := 0) (c5 := 0) (c6 := 0) (cj_new hN) (by decide) (by decide) (by decide) (by decide) (by decide) (by decide) (by decide) (by decide) (by decide) fun nl ch hN => ?_
      refine cj_nm (A := ci_ns.take 1) (w := []) (c1 := 103) (c2 := 100) (c3 := 101) (c4 := 102) (c5 := 0) (c6 := 0) (cj_new hN) (by decide) (by decide) (by decide) (by decide) (by decide) (by decide) (by decide) (by decide) (by decide) fun nl ch hN => ?_
      refine cj_nm (A := ci_ns.take 2) (w := []) (c1 := 108) (c2 := 101) (c3 := 116) (c4 := 0) (c5 := 0) (c6 := 0) (cj_new hN) (by decide) (by decide) (by decide) (by decide) (by decide) (by decide) (by decide) (by decide) (by decide) fun nl ch hN => ?_
      refine cj_nm (A := ci_ns.take 3) (w := []) (c1 := 103) (c2 := 108) (c3 := 101) (c4 := 116) (c5 := 0) (c6 := 0) (cj_new hN) (by decide) (by decide) (by decide) (by decide) (by decide) (by decide) (by decide) (by decide) (by decide) fun nl ch hN => ?_
      refine cj_nm (A := ci_ns.take 4) (w := []) (c1 := 101) (c2 := 120) (c3 := 112) (c4 := 97) (c5 := 110) (c6 := 100) (cj_new hN) (by decide) (by decide) (by decide) (by decide) (by decide) (by decide) (by decide) (by decide) (by decide) fun nl ch hN => ?_
      refine cj_nm (A := ci_ns.take 4) (w := [101, 120, 112, 97, 110, 100]) (c1 := 97) (c2 := 102) (c3 := 116) (c4 := 101) (c5 := 114) (c6 := 0) hN (by decide) (by decide) (by decide) (by decide) (by decide) (by decide) (by decide) (by decide) (by decide) fun nl ch hN => ?_
      refine cj_nm (A := ci_ns.take 5) (w := []) (c1 := 98) (c2 := 101) (c3 := 103) (c4 := 105) (c5 := 110) (c6 := 103) (cj_new hN) (by decide) (by decide) (by decide) (by decide) (by decide) (by decide) (by decide) (by decide) (by decide) fun nl ch hN => ?_
      refine cj_nm (A := ci_ns.take 5) (w := [98, 101, 103, 105, 110, 103]) (c1 := 114) (c2 := 111) (c3 := 117) (c4 := 112) (c5 := 0) (c6 := 0) hN (by decide) (by decide) (by decide) (by decide) (by decide) (by decide) (by decide) (by decide) (by decide) fun nl ch hN => ?_
      refine cj_nm (A := ci_ns.take 6) (w := []) (c1 := 101) (c2 := 110) (c3 := 100) (c4 := 103) (c5 := 114) (c6 := 111) (cj_new hN) (by decide) (by decide) (by decide) (by decide) (by decide) (by decide) (by decide) (by decide) (by decide) fun nl ch hN => ?_
      refine cj_nm (A := ci_ns.take 6) (w := [101, 110, 100, 103, 114, 111]) (c1 := 117) (c2 := 112) (c3 := 0) (c4 := 0) (c5 := 0) (c6 := 0) hN (by decide) (by decide) (by decide) (by decide) (by decide) (by decide) (by decide) (by decide) (by decide) fun nl ch hN => ?_
      refine cj_nm (A := ci_ns.take 7) (w := []) (c1 := 99) (c2 := 97) (c3 := 116) (c4 := 99) (c5 := 111) (c6 := 100) (cj_new hN) (by decide) (by decide) (by decide) (by decide) (by decide) (by decide) (by decide) (by decide) (by decide) fun nl ch hN => ?_
      refine cj_nm (A := ci_ns.take 7) (w := [99, 97, 116, 99, 111, 100]) (c1 := 101) (c2 := 0) (c3 := 0) (c4 := 0) (c5 := 0) (c6 := 0) hN (by decide) (by decide) (by decide) (by decide) (by decide) (by decide) (by decide) (by decide) (by decide) fun nl ch hN => ?_
      refine cj_nm (A := ci_ns.take 8) (w := []) (c1 := 103) (c2 := 99) (c3 := 97) (c4 := 116) (c5 := 99) (c6 := 111) (cj_new hN) (by decide) (by decide) (by decide) (by decide) (by decide) (by decide) (by decide) (by decide) (by decide) fun nl ch hN => ?_
      refine cj_nm (A := ci_ns.take 8) (w := [103, 99, 97, 116, 99, 111]) (c1 := 100) (c2 := 101) (c3 := 0) (c4 := 0) (c5 := 0) (c6 := 0) hN (by decide) (by decide) (by decide) (by decide) (by decide) (by decide) (by decide) (by decide) (by decide) fun nl ch hN => ?_
      refine cj_nm (A := ci_ns.take 9) (w := []) (c1 := 105) (c2 := 102) (c3 := 116) (c4 := 114) (c5 := 117) (c6 := 101) (cj_new hN) (by decide) (by decide) (by decide) (by decide) (by decide) (by decide) (by decide) (by decide) (by decide) fun nl ch hN => ?_
      refine cj_nm (A := ci_ns.take 10) (w := []) (c1 := 105) (c2 := 102) (c3 := 102) (c4 := 97) (c5 := 108) (c6 := 115) (cj_new hN) (by decide) (by decide) (by decide) (by decide) (by decide) (by decide) (by decide) (by decide) (by decide) fun nl ch hN => ?_
      refine cj_nm (A := ci_ns.take 10) (w := [105, 102, 102, 97, 108, 115]) (c1 := 101) (c2 := 0) (c3 := 0) (c4 := 0) (c5 := 0) (c6 := 0) hN (by decide) (by decide) (by decide) (by decide) (by decide) (by decide) (by decide) (by decide) (by decide) fun nl ch hN => ?_
      refine cj_nm (A := ci_ns.take 11) (w := []) (c1 := 105) (c2 := 102) (c3 := 120) (c4 := 0) (c5 := 0) (c6 := 0) (cj_new hN) (by decide) (by decide) (by decide) (by decide) (by decide) (by decide) (by decide) (by decide) (by decide) fun nl ch hN => ?_
      refine cj_nm (A := ci_ns.take 12) (w := []) (c1 := 101) (c2 := 108) (c3 := 115) (c4 := 101) (c5 := 0) (c6 := 0) (cj_new hN) (by decide) (by decide) (by decide) (by decide) (by decide) (by decide) (by decide) (by decide) (by decide) fun nl ch hN => ?_
      refine cj_nm (A := ci_ns.take 13) (w := []) (c1 := 102) (c2 := 105) (c3 := 0) (c4 := 0) (c5 := 0) (c6 := 0) (cj_new hN) (by decide) (by decide) (by decide) (by decide) (by decide) (by decide) (by decide) (by decide) (by decide) fun nl ch hN => ?_
      exact KK nl ch kd vl hN hkv
    · refine br_f (nI_ge (b := 14) (by omega) (by decide)) ?_
      have v : vp_in (nI i) 65 := vp_in_nI (by omega) (by decide)
      refine ⟨v, fun kd' e1 => ⟨v, fun vl' e2 => nm_r (nI_1 _) ?_⟩⟩
      rw [nI_clamp (by omega)] at e1 e2
      rw [e1, e2]
      exact ih (i + 1) _ _ (by omega) (by omega) (cj_KV_s hkv) KK
theorem cj_x (K : ∀ a : Nat → Int32, (∀ j, j < 128 → a j = nI (ci_C j)) → ∃ n298 : Nat, wY_init_298 post f_limit f_used f_st f_ran f_inLen f_inPos f_pl f_ol f_nc f_sc f_yd f_cd n298 0 a_in a a_pend a_out a_nLen a_nCh a_kind a_val a_plen a_rlen a_ptx a_rtx a_sItem a_sLev a_conds a_arg a_aSt a_aLn a_stk) : ∀ (n i : Nat) (cat : Nat → Int32), 128 < n + i → i ≤ 128 → (∀ j, j < i → cat j = nI (ci_c j)) → wY_init_192 post f_limit f_used f_st f_ran f_inLen f_inPos f_pl f_ol f_nc f_sc f_yd f_cd n (nI i) a_in cat a_pend a_out a_nLen a_nCh a_kind a_val a_plen a_rlen a_ptx a_rtx a_sItem a_sLev a_conds a_arg a_aSt a_aLn a_stk := by
  intro n
  induction n with
  | zero => intro i cat h1 h2; omega
  | succ n ih =>
    intro i cat h1 h2 h
    by_cases he : i = 128
    · subst he
      exact br_t (nI_le (Nat.le_refl 128) (by decide)) (nm_e (nm_e (nm_e (nm_e (nm_e (K _ (ci_five h)))))))
    · refine br_f (nI_ge (b := 128) (by omega) (by decide)) ?_
      have leaf : ∀ v : Int32, v = nI (ci_c i) → (vp_in (nI i) 128 ∧ ∀ a : Nat → Int32, a = upd cat (nI i).toNatClampNeg v → ∀ y : Int32, y = nI i + 1 → wY_init_192 post f_limit f_used f_st f_ran f_inLen f_inPos f_pl f_ol f_nc f_sc f_yd f_cd n y a_in a a_pend a_out a_nLen a_nCh a_kind a_val a_plen a_rlen a_ptx a_rtx a_sItem a_sLev a_conds a_arg a_aSt a_aLn a_stk) := fun v hv => by
        refine ⟨vp_in_nI (by omega) (by decide), fun a ea y ey => ?_⟩
        rw [ea, ey, nI_1, nI_clamp (by omega)]
        exact ih (i + 1) _ (by omega) (by omega) (ci_up h hv)
      have c65 : (nI i < 65) ↔ i < 65 := nI_ltI (b := 65) (by omega) (by decide)
      have c90 : (nI i ≤ 90) ↔ i ≤ 90 := nI_leI (b := 90) (by omega) (by decide)
      have c97 : (nI i < 97) ↔ i < 97 := nI_ltI (b := 97) (by omega) (by decide)
      have c122 : (122 < nI i) ↔ 122 < i := nI_ltI (a := 122) (by decide) (by omega)
      have c32 : (nI i < 32) ↔ i < 32 := nI_ltI (b := 32) (by omega) (by decide)
      have c127 : (nI i = 127) ↔ i = 127 := nI_eq (b := 127) (by omega) (by decide)
      unfold wY_init_214 wY_init_226 wY_init_228 wY_init_240
      rw [c65, c90, c97, c122, c32, c127]
      repeat' (first | (refine leaf _ ?_) | (refine And.intro (fun _ => ?_) (fun _ => ?_)))
      all_goals (unfold ci_c; repeat' split)
      all_goals (first | rfl | (exfalso; omega) | skip)
/-- the state that the reference's constructor leaves -/
def cj_SY (L : Int32) (v : SY) : Prop := ∃ cat nl ch kd vl : Nat → Int32, (∀ j, j < 128 → cat j = nI (ci_C j)) ∧ cj_YN nl ch ci_ns ∧ cj_KV kd vl 14 ∧ v = (L, 0, 0, 0, 0, 0, 0, 0, 14, 0, 0, 0, (fun _ => 0), cat, (fun _ => 0), (fun _ => 0), nl, ch, kd, vl, (fun _ => 0), (fun _ => 0), (fun _ => 0), (fun _ => 0), (fun _ => 0), (fun _ => 0), (fun _ => 0), (fun _ => 0), (fun _ => 0), (fun _ => 0), (fun _ => 0))
theorem cj_YN0 : cj_YN (fun _ => 0) (fun _ => 0) [] := ⟨fun i hi => absurd hi (Nat.not_lt_zero _), fun _ _ => rfl⟩
theorem cj_KV0 : cj_KV (fun _ => 0) (fun _ => 0) 0 := fun j => ⟨(if_neg (by omega)).symm, (if_neg (by omega)).symm⟩
theorem cj_192 {L : Int32} (K : ∀ v, cj_SY L v → post v) : ∃ n192 : Nat, wY_init_192 post L 0 0 0 0 0 0 0 0 0 0 0 n192 0 (fun _ => 0) (fun _ => 0) (fun _ => 0) (fun _ => 0) (fun _ => 0) (fun _ => 0) (fun _ => 0) (fun _ => 0) (fun _ => 0) (fun _ => 0) (fun _ => 0) (fun _ => 0) (fun _ => 0) (fun _ => 0) (fun _ => 0) (fun _ => 0) (fun _ => 0) (fun _ => 0) (fun _ => 0) := by
  refine ⟨129, cj_x (fun cat hc => ?_) 129 0 (fun _ => 0) (by decide) (by decide) (fun j hj => absurd hj (Nat.not_lt_zero _))⟩
  refine ⟨15, cj_names cj_YN0 15 0 (fun _ => 0) (fun _ => 0) (by decide) (by decide) cj_KV0 fun nl ch kd vl hN hK => ?_⟩
  exact K _ ⟨cat, nl, ch, kd, vl, hc, hN, hK, rfl⟩
theorem cj_initY {k0 : Int32} (K : ∀ v, cj_SY (ci_lim k0) v → post v) : wpY_init post k0 := by
  unfold wpY_init
  unfold ci_lim at K
  refine br_c (fun h1 => br_c (fun h2 => ?_) (fun h2 => ?_)) (fun h1 => ?_)
  · rw [if_pos h1, if_pos h2] at K
    exact cj_192 K
  · rw [if_pos h1, if_neg h2] at K
    exact cj_192 K
  · rw [if_neg h1] at K
    exact cj_192 K
end IY
end
section
section GT
variable {f_expansionLimit f_expansionCount f_state f_inputLength f_inputPosition f_outputCount f_pendingCount f_namesUsed f_saveCount f_depth f_conditionalCount f_argumentsUsed f_argumentsLimit f_heldCount : Int32} {a_input a_output a_pending a_catcodes a_nameChars a_nameLengths a_meanings a_savedItems a_savedLevels a_savedCatcodes a_conditionals a_arguments a_argumentStarts a_argumentEnds a_held : Nat → Int32}
variable {f_limit f_used f_st f_ran f_inLen f_inPos f_pl f_ol f_nc f_sc f_yd f_cd : Int32} {a_in a_cat a_pend a_out a_nLen a_nCh a_kind a_val a_plen a_rlen a_ptx a_rtx a_sItem a_sLev a_conds a_arg a_aSt a_aLn a_stk : Nat → Int32}
variable {R : Prop} {p0 p1 p2 : Int32} {k : Nat}
theorem gt_outputToken {n : Nat} (hn : n ≤ 256) (h : ∀ j, j < n → a_output j = a_out j) (hR : R) : wpX_outputToken (fun r => wpY_outputToken (fun r' => r' = r ∧ R) (f_limit, f_used, f_st, f_ran, f_inLen, f_inPos, f_pl, nI n, f_nc, f_sc, f_yd, f_cd, a_in, a_cat, a_pend, a_out, a_nLen, a_nCh, a_kind, a_val, a_plen, a_rlen, a_ptx, a_rtx, a_sItem, a_sLev, a_conds, a_arg, a_aSt, a_aLn, a_stk) p0) (f_expansionLimit, f_expansionCount, f_state, f_inputLength, f_inputPosition, nI n, f_pendingCount, f_namesUsed, f_saveCount, f_depth, f_conditionalCount, f_argumentsUsed, f_argumentsLimit, f_heldCount, a_input, a_output, a_pending, a_catcodes, a_nameChars, a_nameLengths, a_meanings, a_savedItems, a_savedLevels, a_savedCatcodes, a_conditionals, a_arguments, a_argumentStarts, a_argumentEnds, a_held) p0 := by
  rcases pk_ix p0 (n := n) (by omega) with z | z | ⟨j, hj, rfl⟩
  · exact br_t z (br_t z ⟨rfl, hR⟩)
  · by_cases z0 : p0 < 0
    · exact br_t z0 (br_t z0 ⟨rfl, hR⟩)
    · exact br_f z0 (br_t z (br_f z0 (br_f (Int32.not_lt.mpr z) ⟨rfl, hR⟩)))
  · have v : vp_in (nI j) 256 := vp_in_nI (by omega) (by decide)
    have z0 : ¬ nI j < 0 := nI_pos (by omega)
    refine br_f z0 (br_f (nI_ge hj (by omega)) ⟨v, br_f z0 (br_t (nI_lt hj (by omega)) ⟨v, ?_, hR⟩)⟩)
    rw [nI_clamp (by omega)]
    exact (h j hj).symm
theorem gt_catcode (h : ∀ j, j < 128 → a_catcodes j = a_cat j) (hR : R) : wpX_catcode (fun r => wpY_catcode (fun r' => r' = r ∧ R) (f_limit, f_used, f_st, f_ran, f_inLen, f_inPos, f_pl, f_ol, f_nc, f_sc, f_yd, f_cd, a_in, a_cat, a_pend, a_out, a_nLen, a_nCh, a_kind, a_val, a_plen, a_rlen, a_ptx, a_rtx, a_sItem, a_sLev, a_conds, a_arg, a_aSt, a_aLn, a_stk) p0) (f_expansionLimit, f_expansionCount, f_state, f_inputLength, f_inputPosition, f_outputCount, f_pendingCount, f_namesUsed, f_saveCount, f_depth, f_conditionalCount, f_argumentsUsed, f_argumentsLimit, f_heldCount, a_input, a_output, a_pending, a_catcodes, a_nameChars, a_nameLengths, a_meanings, a_savedItems, a_savedLevels, a_savedCatcodes, a_conditionals, a_arguments, a_argumentStarts, a_argumentEnds, a_held) p0 := by
  rcases pk_ix p0 (n := 128) (by decide) with z | z | ⟨j, hj, rfl⟩
  · exact br_t z (br_t z ⟨rfl, hR⟩)
  · by_cases z0 : p0 < 0
    · exact br_t z0 (br_t z0 ⟨rfl, hR⟩)
    · refine br_f z0 (br_t z (br_f z0 (br_f ?_ ⟨rfl, hR⟩)))
      intro z2
      exact absurd (Int32.le_trans z z2) (by decide)
  · have v : vp_in (nI j) 128 := vp_in_nI hj (by decide)
    have z0 : ¬ nI j < 0 := nI_pos (by omega)
    refine br_f z0 (br_f (nI_ge (b := 128) hj (by decide)) ⟨v, br_f z0 (br_t (nI_le (b := 127) (by omega) (by decide)) ⟨v, ?_, hR⟩)⟩)
    rw [nI_clamp (by omega)]
    exact (h j hj).symm
theorem gt_isIn {post : Int32 → Prop} {j : Nat} (hj : j < k) (hk : k ≤ 32) (K : post 1) : wpX_isName post (f_expansionLimit, f_expansionCount, f_state, f_inputLength, f_inputPosition, f_outputCount, f_pendingCount, nI k, f_saveCount, f_depth, f_conditionalCount, f_argumentsUsed, f_argumentsLimit, f_heldCount, a_input, a_output, a_pending, a_catcodes, a_nameChars, a_nameLengths, a_meanings, a_savedItems, a_savedLevels, a_savedCatcodes, a_conditionals, a_arguments, a_argumentStarts, a_argumentEnds, a_held) (nI j) := br_f (nI_pos (by omega)) (br_f (nI_ge hj (by omega)) K)
theorem gt_isNot {post : Int32 → Prop} (h : p0 < 0 ∨ nI k ≤ p0) (K : post 0) : wpX_isName post (f_expansionLimit, f_expansionCount, f_state, f_inputLength, f_inputPosition, f_outputCount, f_pendingCount, nI k, f_saveCount, f_depth, f_conditionalCount, f_argumentsUsed, f_argumentsLimit, f_heldCount, a_input, a_output, a_pending, a_catcodes, a_nameChars, a_nameLengths, a_meanings, a_savedItems, a_savedLevels, a_savedCatcodes, a_conditionals, a_arguments, a_argumentStarts, a_argumentEnds, a_held) p0 := by
  by_cases z0 : p0 < 0
  · exact br_t z0 K
  · exact br_f z0 (br_t (h.resolve_left z0) K)
theorem gt_ix (x : Int32) (hk : k ≤ 32) : (x < 0 ∨ nI k ≤ x) ∨ ∃ j : Nat, j < k ∧ x = nI j := by
  rcases pk_ix x (n := k) (by omega) with z | z | z
  · exact Or.inl (Or.inl z)
  · exact Or.inl (Or.inr z)
  · exact Or.inr z
theorem gt_nameLength (hk : k ≤ 32) (h : ∀ j, j < k → a_nameLengths j = a_nLen j) (hR : R) : wpX_nameLength (fun r => wpY_nameLength (fun r' => r' = r ∧ R) (f_limit, f_used, f_st, f_ran, f_inLen, f_inPos, f_pl, f_ol, nI k, f_sc, f_yd, f_cd, a_in, a_cat, a_pend, a_out, a_nLen, a_nCh, a_kind, a_val, a_plen, a_rlen, a_ptx, a_rtx, a_sItem, a_sLev, a_conds, a_arg, a_aSt, a_aLn, a_stk) p0) (f_expansionLimit, f_expansionCount, f_state, f_inputLength, f_inputPosition, f_outputCount, f_pendingCount, nI k, f_saveCount, f_depth, f_conditionalCount, f_argumentsUsed, f_argumentsLimit, f_heldCount, a_input, a_output, a_pending, a_catcodes, a_nameChars, a_nameLengths, a_meanings, a_savedItems, a_savedLevels, a_savedCatcodes, a_conditionals, a_arguments, a_argumentStarts, a_argumentEnds, a_held) p0 := by
  unfold wpX_nameLength
  rcases gt_ix p0 hk with z | ⟨j, hj, rfl⟩
  · refine gt_isNot z (br_t rfl ?_)
    by_cases z0 : p0 < 0
    · exact br_t z0 ⟨rfl, hR⟩
    · exact br_f z0 (br_f (Int32.not_lt.mpr (z.resolve_left z0)) ⟨rfl, hR⟩)
  · have v : vp_in (nI j) 32 := vp_in_nI (by omega) (by decide)
    refine gt_isIn hj hk (br_f ci_10 ⟨v, br_f (nI_pos (by omega)) (br_t (nI_lt hj (by omega)) ⟨v, ?_, hR⟩)⟩)
    rw [nI_clamp (by omega)]
    exact (h j hj).symm
theorem gt_nameChar {ns : List (List Nat)} (hk : ns.length ≤ 32) (h11 : ∀ v, v ∈ ns → v.length ≤ 11) (hX : xr_N a_nameLengths a_nameChars ns) (hY : yr_N a_nLen a_nCh ns) (hR : R) : wpX_nameChar (fun r => wpY_nameChar (fun r' => r' = r ∧ R) (f_limit, f_used, f_st, f_ran, f_inLen, f_inPos, f_pl, f_ol, nI ns.length, f_sc, f_yd, f_cd, a_in, a_cat, a_pend, a_out, a_nLen, a_nCh, a_kind, a_val, a_plen, a_rlen, a_ptx, a_rtx, a_sItem, a_sLev, a_conds, a_arg, a_aSt, a_aLn, a_stk) p0 p1) (f_expansionLimit, f_expansionCount, f_state, f_inputLength, f_inputPosition, f_outputCount, f_pendingCount, nI ns.length, f_saveCount, f_depth, f_conditionalCount, f_argumentsUsed, f_argumentsLimit, f_heldCount, a_input, a_output, a_pending, a_catcodes, a_nameChars, a_nameLengths, a_meanings, a_savedItems, a_savedLevels, a_savedCatcodes, a_conditionals, a_arguments, a_argumentStarts, a_argumentEnds, a_held) p0 p1 := by
  unfold wpX_nameChar
  rcases gt_ix p0 hk with z | ⟨j, hj, rfl⟩
  · refine gt_isNot z (br_t rfl ?_)
    by_cases z0 : p0 < 0
    · exact br_t z0 ⟨rfl, hR⟩
    · exact br_f z0 (br_t (z.resolve_left z0) ⟨rfl, hR⟩)
  · have v : vp_in (nI j) 32 := vp_in_nI (by omega) (by decide)
    have z0 : ¬ nI j < 0 := nI_pos (by omega)
    have z1 := nI_ge hj (show ns.length < 2 ^ 31 by omega)
    have cl : (nI j).toNatClampNeg = j := nI_clamp (by omega)
    have hw : (ns.getD j []).length ≤ 11 := by
      rw [List.getD_eq_getElem?_getD, List.getElem?_eq_getElem hj]
      exact h11 _ (List.getElem_mem hj)
    obtain ⟨x1, x2⟩ := hX j hj
    obtain ⟨y1, y2⟩ := hY j hj
    refine gt_isIn hj hk (br_f ci_10 ?_)
    rcases pk_ix p1 (n := (ns.getD j []).length) (by omega) with w | w | ⟨i, hi, rfl⟩
    · exact br_t w (br_f z0 (br_f z1 (br_t w ⟨rfl, hR⟩)))
    · by_cases w0 : p1 < 0
      · exact br_t w0 (br_f z0 (br_f z1 (br_t w0 ⟨rfl, hR⟩)))
      · refine br_f w0 ⟨v, br_f ?_ (br_f z0 (br_f z1 (br_f w0 ⟨v, br_f ?_ ⟨rfl, hR⟩⟩)))⟩
        · rw [cl, x1]; exact Int32.not_lt.mpr w
        · rw [cl, y1]; exact Int32.not_lt.mpr w
    · have w0 : ¬ nI i < 0 := nI_pos (by omega)
      have lt : nI i < nI (ns.getD j []).length := nI_lt hi (by omega)
      have ix : nI j * 11 + nI i = nI (j * 11 + i) := by rw [← nI_add, ← pk_mul]; rfl
      have iy : nI j * 12 + nI i = nI (j * 12 + i) := by rw [← nI_add, ← pk_mul]; rfl
      refine br_f w0 ⟨v, br_t (by rw [cl, x1]; exact lt) ⟨by rw [ix]; exact vp_in_nI (by omega) (by decide), br_f z0 (br_f z1 (br_f w0 ⟨v, br_t (by rw [cl, y1]; exact lt) ⟨by rw [iy]; exact vp_in_nI (by omega) (by decide), ?_, hR⟩⟩))⟩⟩
      rw [ix, iy, nI_clamp (by omega), nI_clamp (by omega), x2 i hi, y2 i hi]
theorem gt_36 (j i : Nat) : nI j * 36 + nI i = nI (j * 36 + i) := by rw [← nI_add, ← pk_mul]; rfl
theorem gt_meaningKind (hk : k ≤ 32) (h : ∀ j, j < k → a_meanings (j * 36) = a_kind j) (hR : R) : wpX_meaningKind (fun r => wpY_meaningKind (fun r' => r' = r ∧ R) (f_limit, f_used, f_st, f_ran, f_inLen, f_inPos, f_pl, f_ol, nI k, f_sc, f_yd, f_cd, a_in, a_cat, a_pend, a_out, a_nLen, a_nCh, a_kind, a_val, a_plen, a_rlen, a_ptx, a_rtx, a_sItem, a_sLev, a_conds, a_arg, a_aSt, a_aLn, a_stk) p0) (f_expansionLimit, f_expansionCount, f_state, f_inputLength, f_inputPosition, f_outputCount, f_pendingCount, nI k, f_saveCount, f_depth, f_conditionalCount, f_argumentsUsed, f_argumentsLimit, f_heldCount, a_input, a_output, a_pending, a_catcodes, a_nameChars, a_nameLengths, a_meanings, a_savedItems, a_savedLevels, a_savedCatcodes, a_conditionals, a_arguments, a_argumentStarts, a_argumentEnds, a_held) p0 := by
  unfold wpX_meaningKind
  rcases gt_ix p0 hk with z | ⟨j, hj, rfl⟩
  · refine gt_isNot z (br_t rfl ?_)
    by_cases z0 : p0 < 0
    · exact br_t z0 ⟨rfl, hR⟩
    · exact br_f z0 (br_f (Int32.not_lt.mpr (z.resolve_left z0)) ⟨rfl, hR⟩)
  · have v : vp_in (nI j) 65 := vp_in_nI (by omega) (by decide)
    have ix : nI j * 36 + 0 = nI (j * 36) := gt_36 j 0
    refine gt_isIn hj hk (br_f ci_10 ⟨by rw [ix]; exact vp_in_nI (by omega) (by decide), br_f (nI_pos (by omega)) (br_t (nI_lt hj (by omega)) ⟨v, ?_, hR⟩)⟩)
    rw [ix, nI_clamp (by omega), nI_clamp (by omega)]
    exact (h j hj).symm
theorem gt_meaningValue (hk : k ≤ 32) (h : ∀ j, j < k → (a_kind j = 0 → a_meanings (j * 36 + 1) = 0) ∧ (¬ a_kind j = 0 → a_meanings (j * 36 + 1) = a_val j)) (hR : R) : wpX_meaningValue (fun r => wpY_meaningValue (fun r' => r' = r ∧ R) (f_limit, f_used, f_st, f_ran, f_inLen, f_inPos, f_pl, f_ol, nI k, f_sc, f_yd, f_cd, a_in, a_cat, a_pend, a_out, a_nLen, a_nCh, a_kind, a_val, a_plen, a_rlen, a_ptx, a_rtx, a_sItem, a_sLev, a_conds, a_arg, a_aSt, a_aLn, a_stk) p0) (f_expansionLimit, f_expansionCount, f_state, f_inputLength, f_inputPosition, f_outputCount, f_pendingCount, nI k, f_saveCount, f_depth, f_conditionalCount, f_argumentsUsed, f_argumentsLimit, f_heldCount, a_input, a_output, a_pending, a_catcodes, a_nameChars, a_nameLengths, a_meanings, a_savedItems, a_savedLevels, a_savedCatcodes, a_conditionals, a_arguments, a_argumentStarts, a_argumentEnds, a_held) p0 := by
  unfold wpX_meaningValue
  rcases gt_ix p0 hk with z | ⟨j, hj, rfl⟩
  · refine gt_isNot z (br_t rfl ?_)
    by_cases z0 : p0 < 0
    · exact br_t z0 ⟨rfl, hR⟩
    · exact br_f z0 (br_f (Int32.not_lt.mpr (z.resolve_left z0)) ⟨rfl, hR⟩)
  · have v : vp_in (nI j) 65 := vp_in_nI (by omega) (by decide)
    have ix : nI j * 36 + 1 = nI (j * 36 + 1) := gt_36 j 1
    have cl : (nI j).toNatClampNeg = j := nI_clamp (by omega)
    refine gt_isIn hj hk (br_f ci_10 ⟨by rw [ix]; exact vp_in_nI (by omega) (by decide), br_f (nI_pos (by omega)) (br_t (nI_lt hj (by omega)) ⟨v, br_c (fun q => ⟨?_, hR⟩) (fun q => ⟨v, ?_, hR⟩)⟩)⟩)
    · rw [cl] at q
      rw [ix, nI_clamp (by omega)]
      exact ((h j hj).1 q).symm
    · rw [cl] at q
      rw [ix, cl, nI_clamp (by omega)]
      exact ((h j hj).2 q).symm
/-- no macro among the names: the texts are nowhere -/
theorem gt_noText (hk : k ≤ 32) {post : Int32 → Prop} (h : ∀ j, j < k → a_meanings (j * 36) ≠ 2) (K : post (-1)) : wpX_textLength post (f_expansionLimit, f_expansionCount, f_state, f_inputLength, f_inputPosition, f_outputCount, f_pendingCount, nI k, f_saveCount, f_depth, f_conditionalCount, f_argumentsUsed, f_argumentsLimit, f_heldCount, a_input, a_output, a_pending, a_catcodes, a_nameChars, a_nameLengths, a_meanings, a_savedItems, a_savedLevels, a_savedCatcodes, a_conditionals, a_arguments, a_argumentStarts, a_argumentEnds, a_held) p0 p1 := by
  unfold wpX_textLength
  rcases gt_ix p0 hk with z | ⟨j, hj, rfl⟩
  · exact gt_isNot z (br_t rfl K)
  · have ix : nI j * 36 + 0 = nI (j * 36) := gt_36 j 0
    refine gt_isIn hj hk (br_f ci_10 (br_c (fun _ => K) (fun _ => br_c (fun _ => K) (fun _ => ⟨by rw [ix]; exact vp_in_nI (by omega) (by decide), br_f ?_ K⟩))))
    rw [ix, nI_clamp (by omega)]
    exact h j hj
theorem gt_noTextY (hk : k ≤ 32) {post : Int32 → Prop} (h : ∀ j, j < k → a_kind j ≠ 2) (K : post (-1)) : wpY_macroTextLength post (f_limit, f_used, f_st, f_ran, f_inLen, f_inPos, f_pl, f_ol, nI k, f_sc, f_yd, f_cd, a_in, a_cat, a_pend, a_out, a_nLen, a_nCh, a_kind, a_val, a_plen, a_rlen, a_ptx, a_rtx, a_sItem, a_sLev, a_conds, a_arg, a_aSt, a_aLn, a_stk) p0 p1 := by
  rcases gt_ix p0 hk with z | ⟨j, hj, rfl⟩
  · by_cases z0 : p0 < 0
    · exact br_t z0 K
    · exact br_f z0 (br_t (z.resolve_left z0) K)
  · refine br_f (nI_pos (by omega)) (br_f (nI_ge hj (by omega)) ⟨vp_in_nI (by omega) (by decide), br_f ?_ K⟩)
    rw [nI_clamp (by omega)]
    exact h j hj
end GT
end
section
/-- the first call alone: both objects are fresh -/
def i_Rel (k : Nat) (u : SX) (v : SY) : Prop := k ≤ 1 → ∃ L : Int32, ci_SX L u ∧ cj_SY L v
theorem i_up {k : Nat} {u : SX} {v : SY} (h : i_Rel k u v) : i_Rel (k + 4) u v := fun z => by omega
theorem i_vc0 (k0 : Int32) : wpX_init (fun u => wpY_init (fun v => i_Rel 1 u v) k0) k0 := ci_initX fun u hu => cj_initY fun v hv => fun _ => ⟨_, hu, hv⟩
theorem fx_5 {k : Nat} {u : SX} {v : SY} : i_Rel (k + 4) u v := fun z => by omega
theorem fx_mm {mm : Nat → Int32} (h : ci_MM mm 14) : ∀ j, j < 14 → mm (j * 36) = 1 ∧ mm (j * 36 + 1) = nI j := fun j hj => by
  rw [h, h, if_pos (by omega), if_pos (by omega), if_pos (by omega), if_neg (by omega), if_pos (by omega), show (j * 36 + 1) / 36 = j from by omega]
  exact ⟨rfl, rfl⟩
theorem fx_kv {kd vl : Nat → Int32} (h : cj_KV kd vl 14) : ∀ j, j < 14 → kd j = 1 ∧ vl j = nI j := fun j hj => by
  rw [(h j).1, (h j).2, if_pos hj, if_pos hj]
  exact ⟨rfl, rfl⟩
theorem i_vc_feed {k : Nat} {u : SX} {v : SY} (I : i_Rel k u v) (hk : k + 4 ≤ 5) (v1 : Int32) : wpX_feed (fun r u' => wpY_feed (fun r' v' => r' = r ∧ i_Rel (k + 4) u' v') v v1) u v1 := by
  obtain ⟨L, ⟨cat, nl, ch, mm, hc, hN, hM, rfl⟩, ⟨cat', nl', ch', kd, vl, hc', hN', hK, rfl⟩⟩ := I (by omega)
  refine br_t rfl ?_
  by_cases z0 : v1 < 0
  · exact br_t z0 (br_t rfl (br_t z0 ⟨rfl, fx_5⟩))
  · refine br_f z0 ?_
    by_cases z1 : (128 : Int32) ≤ v1
    · have z2 : (127 : Int32) < v1 := Int32.lt_of_lt_of_le (by decide) z1
      exact br_t z1 (br_t rfl (br_f z0 (br_t z2 ⟨rfl, fx_5⟩)))
    · have z2 : ¬ (127 : Int32) < v1 := by
        obtain ⟨j, hj, rfl⟩ := nI_of z0
        intro z3
        have a := (nI_ltI (a := 127) (b := j) (by decide) hj).mp z3
        exact z1 (nI_le (a := 128) (b := j) (by omega) hj)
      refine br_f z1 (br_t (by decide) ⟨vp_in_nI (n := 0) (by decide) (by decide), fun a ea y ey => ?_⟩)
      exact br_t rfl (br_f z0 (br_f z2 (br_f (by decide) ⟨vp_in_nI (n := 0) (by decide) (by decide), fun a' ea' y' ey' => ⟨rfl, fx_5⟩⟩)))
theorem i_vc_run {k : Nat} {u : SX} {v : SY} (I : i_Rel k u v) (hk : k + 4 ≤ 5) : wpX_run (fun r u' => wpY_run (fun r' v' => r' = r ∧ i_Rel (k + 4) u' v') v) u := by
  obtain ⟨L, ⟨cat, nl, ch, mm, hc, hN, hM, rfl⟩, ⟨cat', nl', ch', kd, vl, hc', hN', hK, rfl⟩⟩ := I (by omega)
  refine ⟨1, br_f (by decide) (br_t rfl (br_t rfl (br_t (by decide) ⟨1, br_t (by decide) ?_⟩)))⟩
  refine br_f (c := (1024 : Int32) ≤ -1) (by decide) ?_
  refine br_f (c := (3 : Int32) = 1) (by decide) ?_
  refine br_f (c := (-1 : Int32) = 4) (by decide) ?_
  refine br_t rfl ?_
  refine br_t rfl ⟨1, br_f (by decide) (br_t rfl (br_t (by decide) ⟨1, br_f (by decide) (br_t (by decide) ?_)⟩))⟩
  exact br_t rfl (br_f (by decide) ⟨rfl, fx_5⟩)
theorem i_vc_status {k : Nat} {u : SX} {v : SY} (I : i_Rel k u v) (hk : k + 4 ≤ 5) : wpX_status (fun r => wpY_status (fun r' => r' = r ∧ i_Rel (k + 4) u v) v) u := by
  obtain ⟨L, ⟨cat, nl, ch, mm, hc, hN, hM, rfl⟩, ⟨cat', nl', ch', kd, vl, hc', hN', hK, rfl⟩⟩ := I (by omega)
  exact ⟨rfl, fx_5⟩
theorem i_vc_expansionsUsed {k : Nat} {u : SX} {v : SY} (I : i_Rel k u v) (hk : k + 4 ≤ 5) : wpX_expansionsUsed (fun r => wpY_expansionsUsed (fun r' => r' = r ∧ i_Rel (k + 4) u v) v) u := by
  obtain ⟨L, ⟨cat, nl, ch, mm, hc, hN, hM, rfl⟩, ⟨cat', nl', ch', kd, vl, hc', hN', hK, rfl⟩⟩ := I (by omega)
  exact ⟨rfl, fx_5⟩
theorem i_vc_outputLength {k : Nat} {u : SX} {v : SY} (I : i_Rel k u v) (hk : k + 4 ≤ 5) : wpX_outputLength (fun r => wpY_outputLength (fun r' => r' = r ∧ i_Rel (k + 4) u v) v) u := by
  obtain ⟨L, ⟨cat, nl, ch, mm, hc, hN, hM, rfl⟩, ⟨cat', nl', ch', kd, vl, hc', hN', hK, rfl⟩⟩ := I (by omega)
  exact ⟨rfl, fx_5⟩
theorem i_vc_outputToken {k : Nat} {u : SX} {v : SY} (I : i_Rel k u v) (hk : k + 4 ≤ 5) (v1 : Int32) : wpX_outputToken (fun r => wpY_outputToken (fun r' => r' = r ∧ i_Rel (k + 4) u v) v v1) u v1 := by
  obtain ⟨L, ⟨cat, nl, ch, mm, hc, hN, hM, rfl⟩, ⟨cat', nl', ch', kd, vl, hc', hN', hK, rfl⟩⟩ := I (by omega)
  exact gt_outputToken (n := 0) (by decide) (fun j hj => absurd hj (Nat.not_lt_zero _)) fx_5
theorem i_vc_catcode {k : Nat} {u : SX} {v : SY} (I : i_Rel k u v) (hk : k + 4 ≤ 5) (v1 : Int32) : wpX_catcode (fun r => wpY_catcode (fun r' => r' = r ∧ i_Rel (k + 4) u v) v v1) u v1 := by
  obtain ⟨L, ⟨cat, nl, ch, mm, hc, hN, hM, rfl⟩, ⟨cat', nl', ch', kd, vl, hc', hN', hK, rfl⟩⟩ := I (by omega)
  exact gt_catcode (fun j hj => (hc j hj).trans (hc' j hj).symm) fx_5
theorem i_vc_groupDepth {k : Nat} {u : SX} {v : SY} (I : i_Rel k u v) (hk : k + 4 ≤ 5) : wpX_groupDepth (fun r => wpY_groupDepth (fun r' => r' = r ∧ i_Rel (k + 4) u v) v) u := by
  obtain ⟨L, ⟨cat, nl, ch, mm, hc, hN, hM, rfl⟩, ⟨cat', nl', ch', kd, vl, hc', hN', hK, rfl⟩⟩ := I (by omega)
  exact ⟨rfl, fx_5⟩
theorem i_vc_condDepth {k : Nat} {u : SX} {v : SY} (I : i_Rel k u v) (hk : k + 4 ≤ 5) : wpX_condDepth (fun r => wpY_condDepth (fun r' => r' = r ∧ i_Rel (k + 4) u v) v) u := by
  obtain ⟨L, ⟨cat, nl, ch, mm, hc, hN, hM, rfl⟩, ⟨cat', nl', ch', kd, vl, hc', hN', hK, rfl⟩⟩ := I (by omega)
  exact ⟨rfl, fx_5⟩
theorem i_vc_nameCount {k : Nat} {u : SX} {v : SY} (I : i_Rel k u v) (hk : k + 4 ≤ 5) : wpX_nameCount (fun r => wpY_nameCount (fun r' => r' = r ∧ i_Rel (k + 4) u v) v) u := by
  obtain ⟨L, ⟨cat, nl, ch, mm, hc, hN, hM, rfl⟩, ⟨cat', nl', ch', kd, vl, hc', hN', hK, rfl⟩⟩ := I (by omega)
  exact ⟨rfl, fx_5⟩
theorem i_vc_nameLength {k : Nat} {u : SX} {v : SY} (I : i_Rel k u v) (hk : k + 4 ≤ 5) (v1 : Int32) : wpX_nameLength (fun r => wpY_nameLength (fun r' => r' = r ∧ i_Rel (k + 4) u v) v v1) u v1 := by
  obtain ⟨L, ⟨cat, nl, ch, mm, hc, hN, hM, rfl⟩, ⟨cat', nl', ch', kd, vl, hc', hN', hK, rfl⟩⟩ := I (by omega)
  exact gt_nameLength (k := 14) (by decide) (fun j hj => (hN.1 j hj).1.trans (hN'.1 j hj).1.symm) fx_5
theorem i_vc_nameChar {k : Nat} {u : SX} {v : SY} (I : i_Rel k u v) (hk : k + 4 ≤ 5) (v1 : Int32) (v2 : Int32) : wpX_nameChar (fun r => wpY_nameChar (fun r' => r' = r ∧ i_Rel (k + 4) u v) v v1 v2) u v1 v2 := by
  obtain ⟨L, ⟨cat, nl, ch, mm, hc, hN, hM, rfl⟩, ⟨cat', nl', ch', kd, vl, hc', hN', hK, rfl⟩⟩ := I (by omega)
  exact gt_nameChar (ns := ci_ns) (by decide) (by decide) hN.1 hN'.1 fx_5
theorem i_vc_meaningKind {k : Nat} {u : SX} {v : SY} (I : i_Rel k u v) (hk : k + 4 ≤ 5) (v1 : Int32) : wpX_meaningKind (fun r => wpY_meaningKind (fun r' => r' = r ∧ i_Rel (k + 4) u v) v v1) u v1 := by
  obtain ⟨L, ⟨cat, nl, ch, mm, hc, hN, hM, rfl⟩, ⟨cat', nl', ch', kd, vl, hc', hN', hK, rfl⟩⟩ := I (by omega)
  exact gt_meaningKind (k := 14) (by decide) (fun j hj => (fx_mm hM j hj).1.trans (fx_kv hK j hj).1.symm) fx_5
theorem i_vc_meaningValue {k : Nat} {u : SX} {v : SY} (I : i_Rel k u v) (hk : k + 4 ≤ 5) (v1 : Int32) : wpX_meaningValue (fun r => wpY_meaningValue (fun r' => r' = r ∧ i_Rel (k + 4) u v) v v1) u v1 := by
  obtain ⟨L, ⟨cat, nl, ch, mm, hc, hN, hM, rfl⟩, ⟨cat', nl', ch', kd, vl, hc', hN', hK, rfl⟩⟩ := I (by omega)
  exact gt_meaningValue (k := 14) (by decide) (fun j hj => ⟨fun z => absurd ((fx_kv hK j hj).1.symm.trans z) (by decide), fun _ => (fx_mm hM j hj).2.trans (fx_kv hK j hj).2.symm⟩) fx_5
theorem i_vc_macroTextLength {k : Nat} {u : SX} {v : SY} (I : i_Rel k u v) (hk : k + 4 ≤ 5) (v1 : Int32) (v2 : Int32) : wpX_macroTextLength (fun r => wpY_macroTextLength (fun r' => r' = r ∧ i_Rel (k + 4) u v) v v1 v2) u v1 v2 := by
  obtain ⟨L, ⟨cat, nl, ch, mm, hc, hN, hM, rfl⟩, ⟨cat', nl', ch', kd, vl, hc', hN', hK, rfl⟩⟩ := I (by omega)
  unfold wpX_macroTextLength
  refine gt_noText (k := 14) (by decide) (fun j hj => by rw [(fx_mm hM j hj).1]; decide) ?_
  exact gt_noTextY (k := 14) (by decide) (fun j hj => by rw [(fx_kv hK j hj).1]; decide) ⟨rfl, fx_5⟩
theorem i_vc_macroTextToken {k : Nat} {u : SX} {v : SY} (I : i_Rel k u v) (hk : k + 4 ≤ 5) (v1 : Int32) (v2 : Int32) (v3 : Int32) : wpX_macroTextToken (fun r => wpY_macroTextToken (fun r' => r' = r ∧ i_Rel (k + 4) u v) v v1 v2 v3) u v1 v2 v3 := by
  obtain ⟨L, ⟨cat, nl, ch, mm, hc, hN, hM, rfl⟩, ⟨cat', nl', ch', kd, vl, hc', hN', hK, rfl⟩⟩ := I (by omega)
  unfold wpX_macroTextToken
  refine gt_noText (k := 14) (by decide) (fun j hj => by rw [(fx_mm hM j hj).1]; decide) ?_
  have Y : ∀ R : Prop, R → wpY_macroTextToken (fun r' => r' = -1 ∧ R) (L, 0, 0, 0, 0, 0, 0, 0, 14, 0, 0, 0, (fun _ => 0), cat', (fun _ => 0), (fun _ => 0), nl', ch', kd, vl, (fun _ => 0), (fun _ => 0), (fun _ => 0), (fun _ => 0), (fun _ => 0), (fun _ => 0), (fun _ => 0), (fun _ => 0), (fun _ => 0), (fun _ => 0), (fun _ => 0)) v1 v2 v3 := fun R hR => by
    unfold wpY_macroTextToken
    exact gt_noTextY (k := 14) (by decide) (fun j hj => by rw [(fx_kv hK j hj).1]; decide) (br_t (by decide) ⟨rfl, hR⟩)
  by_cases z0 : v3 < 0
  · exact br_t z0 (Y _ fx_5)
  · refine br_f z0 (br_f ?_ (Y _ fx_5))
    intro z1
    exact z0 (Int32.lt_trans z1 (by decide))
end
