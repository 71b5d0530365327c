section QL
theorem ql_same {g f m o : BitVec 64} {n w : Nat} (ho : ∀ k, k < 64 → o.getLsbD k = true) (hm : ∀ k, m.getLsbD k = decide (k < w)) (hf : ∀ k, w ≤ k → f.getLsbD k = false) (hn : n + w ≤ 63) : (((g &&& ((m <<< n) ^^^ o)) ||| (f <<< n)).sshiftRight n) &&& m = f := by
  apply BitVec.eq_of_getLsbD_eq
  intro k hk
  rw [BitVec.getLsbD_and, BitVec.getLsbD_sshiftRight, hm]
  by_cases h : k < w
  · have e1 : n + k < 64 := by omega
    have e2 : ¬ 64 ≤ k := by omega
    have e3 : ¬ n + k < n := by omega
    rw [if_pos e1, BitVec.getLsbD_or, BitVec.getLsbD_and, BitVec.getLsbD_xor, BitVec.getLsbD_shiftLeft, BitVec.getLsbD_shiftLeft, ho _ e1, Nat.add_sub_cancel_left, hm, decide_eq_true h, decide_eq_true e1, decide_eq_false e2, decide_eq_false e3]
    cases g.getLsbD (n + k) <;> cases f.getLsbD k <;> rfl
  · rw [hf k (by omega), decide_eq_false h, Bool.and_false]
theorem ql_diff {g f m o : BitVec 64} {n n' w : Nat} (ho : ∀ k, k < 64 → o.getLsbD k = true) (hm : ∀ k, m.getLsbD k = decide (k < w)) (hf : ∀ k, w ≤ k → f.getLsbD k = false) (hd : n + w ≤ n' ∨ n' + w ≤ n) (hn : n' + w ≤ 63) : (((g &&& ((m <<< n) ^^^ o)) ||| (f <<< n)).sshiftRight n') &&& m = g.sshiftRight n' &&& m := by
  apply BitVec.eq_of_getLsbD_eq
  intro k hk
  rw [BitVec.getLsbD_and, BitVec.getLsbD_and, BitVec.getLsbD_sshiftRight, BitVec.getLsbD_sshiftRight, hm]
  by_cases h : k < w
  · have e1 : n' + k < 64 := by omega
    have e2 : ¬ 64 ≤ k := by omega
    rw [if_pos e1, if_pos e1, BitVec.getLsbD_or, BitVec.getLsbD_and, BitVec.getLsbD_xor, BitVec.getLsbD_shiftLeft, BitVec.getLsbD_shiftLeft, ho _ e1, decide_eq_true h, decide_eq_true e1, decide_eq_false e2]
    by_cases h3 : n' + k < n
    · rw [decide_eq_true h3]
      cases g.getLsbD (n' + k) <;> cases m.getLsbD (n' + k - n) <;> cases f.getLsbD (n' + k - n) <;> rfl
    · have e4 : w ≤ n' + k - n := by omega
      have e5 : ¬ n' + k - n < w := by omega
      rw [decide_eq_false h3, hm, decide_eq_false e5, hf _ e4]
      cases g.getLsbD (n' + k) <;> rfl
  · rw [decide_eq_false h, Bool.and_false, Bool.and_false]
theorem ql_one : ∀ k, k < 64 → (-1 : Int64).toBitVec.getLsbD k = true := by decide
/-- a field of a long number set, and looked up -/
theorem ql_S {g f m s : Int64} {n w : Nat} (hs : (s.toBitVec.smod 64).toNat = n) (hm : ∀ k, m.toBitVec.getLsbD k = decide (k < w)) (hf : ∀ k, w ≤ k → f.toBitVec.getLsbD k = false) (hn : n + w ≤ 63) : (((g &&& ((m <<< s) ^^^ (-1))) ||| (f <<< s)) >>> s) &&& m = f := by
  apply Int64.toBitVec_inj.mp
  have h := ql_same (g := g.toBitVec) ql_one hm hf hn
  rw [← hs] at h
  exact h
theorem ql_D {g f m s s' : Int64} {n n' w : Nat} (hs : (s.toBitVec.smod 64).toNat = n) (hs' : (s'.toBitVec.smod 64).toNat = n') (hm : ∀ k, m.toBitVec.getLsbD k = decide (k < w)) (hf : ∀ k, w ≤ k → f.toBitVec.getLsbD k = false) (hd : n + w ≤ n' ∨ n' + w ≤ n) (hn : n' + w ≤ 63) : (((g &&& ((m <<< s) ^^^ (-1))) ||| (f <<< s)) >>> s') &&& m = (g >>> s') &&& m := by
  apply Int64.toBitVec_inj.mp
  have h := ql_diff (g := g.toBitVec) ql_one hm hf hd hn
  rw [← hs, ← hs'] at h
  exact h
theorem ql_m13 : ∀ k, (8191 : Int64).toBitVec.getLsbD k = decide (k < 13) := fun k => by
  by_cases h : k < 64
  · revert k
    decide
  · rw [BitVec.getLsbD_of_ge _ _ (by omega)]
    simp
    omega
theorem ql_m4 : ∀ k, (15 : Int64).toBitVec.getLsbD k = decide (k < 4) := fun k => by
  by_cases h : k < 64
  · revert k
    decide
  · rw [BitVec.getLsbD_of_ge _ _ (by omega)]
    simp
    omega
theorem ql_lt {F w : Nat} (h : F < 2 ^ w) : ∀ k, w ≤ k → (lN F).toBitVec.getLsbD k = false := fun k hk => by
  show (BitVec.ofNat 64 F).getLsbD k = false
  rw [BitVec.getLsbD_ofNat, Nat.testBit_lt_two_pow (Nat.lt_of_lt_of_le h (Nat.pow_le_pow_right (by decide) hk)), Bool.and_false]
theorem ql_s13 {i : Nat} (h : i < 4) : (((13 * nI i).toInt64 &&& 63).toBitVec.smod 64).toNat = 13 * i := by
  match i, h with
  | 0, _ => decide
  | 1, _ => decide
  | 2, _ => decide
  | 3, _ => decide
  | n + 4, h => omega
theorem ql_s4 {i : Nat} (h : i < 4) : (((4 * nI i).toInt64 &&& 63).toBitVec.smod 64).toNat = 4 * i := by
  match i, h with
  | 0, _ => decide
  | 1, _ => decide
  | 2, _ => decide
  | 3, _ => decide
  | n + 4, h => omega
/-- what the law's long numbers hold -/
abbrev qn_T : Type := Nat → Option (Nat × Bool)
def ql_f : Option (Nat × Bool) → Nat
  | none => 0
  | some (p, b) => 4096 + (if b = true then 2048 else 0) + p
def ql_N (g : Int64) (pN : qn_T) : Prop := ∀ i, i < 4 → (g >>> ((13 * nI i).toInt64 &&& 63)) &&& 8191 = lN (ql_f (pN i)) ∧ ∀ v, pN i = some v → v.1 < 2048
def ql_e : Option Nat → Nat
  | none => 0
  | some d => 8 + d
def ql_C (g : Int64) (pC : qg_K) : Prop := ∀ i, i < 4 → (g >>> ((4 * nI i).toInt64 &&& 63)) &&& 15 = lN (ql_e (pC i)) ∧ ∀ d, pC i = some d → d < 8
theorem ql_or {a b : Nat} : lN a ||| lN b = lN (a ||| b) := by
  apply Int64.toBitVec_inj.mp
  show BitVec.ofNat 64 a ||| BitVec.ofNat 64 b = BitVec.ofNat 64 (a ||| b)
  exact (BitVec.ofNat_or).symm
theorem ql_setN {post : Int64 → Prop} {g : Int64} {pN : qn_T} {i p : Nat} {b : Bool} (h : ql_N g pN) (hi : i < 4) (hp : p < 2048) (K : ∀ g', ql_N g' (fun j => if j = i then some (p, b) else pN j) → post g') : wpL_setN post () g (nI i) (nI p) (if b = true then 1 else 0) := by
  have hl : (nI p).toInt64 = lN p := nI_l (by omega)
  have key : ∀ F, F < 2 ^ 13 → F = ql_f (some (p, b)) → ql_N ((g &&& (((8191 : Int64) <<< ((13 * nI i).toInt64 &&& 63)) ^^^ (-1))) ||| (lN F <<< ((13 * nI i).toInt64 &&& 63))) (fun j => if j = i then some (p, b) else pN j) := fun F hF eF j hj => by
    by_cases e : j = i
    · subst e
      rw [ql_S (ql_s13 hj) ql_m13 (ql_lt hF) (by omega)]
      dsimp only
      rw [if_pos rfl, eF]
      exact ⟨rfl, fun v hv => by cases hv; exact hp⟩
    · rw [ql_D (ql_s13 hi) (ql_s13 hj) ql_m13 (ql_lt hF) (by omega) (by omega)]
      dsimp only
      rw [if_neg e]
      exact h j hj
  cases b with
  | false =>
    refine br_t rfl (nm_r (e' := lN (4096 + p)) ?_ (K _ (key _ (by omega) rfl)))
    rw [hl]
    show lN 4096 ||| lN p = _
    rw [ql_or]
    congr 1
    exact (Nat.two_pow_add_eq_or_of_lt (i := 11) (by omega) 2).symm
  | true =>
    refine br_f (by decide) (nm_r (e' := lN (4096 + 2048 + p)) ?_ (K _ (key _ (by omega) rfl)))
    rw [hl]
    show lN 6144 ||| lN p = _
    rw [ql_or]
    congr 1
    exact (Nat.two_pow_add_eq_or_of_lt (i := 11) (by omega) 3).symm
theorem ql_setC {post : Int64 → Prop} {g : Int64} {pC : qg_K} {i d : Nat} (h : ql_C g pC) (hi : i < 4) (hd : d < 8) (K : ∀ g', ql_C g' (fun j => if j = i then some d else pC j) → post g') : wpL_setC post () g (nI i) (nI d) := by
  have hl : (nI d).toInt64 = lN d := nI_l (by omega)
  have e8 : (8 : Int64) ||| lN d = lN (8 + d) := by
    show lN 8 ||| lN d = _
    rw [ql_or]
    congr 1
    exact (Nat.two_pow_add_eq_or_of_lt (i := 3) (by omega) 1).symm
  show post ((g &&& (((15 : Int64) <<< ((4 * nI i).toInt64 &&& 63)) ^^^ (-1))) ||| ((8 ||| (nI d).toInt64) <<< ((4 * nI i).toInt64 &&& 63)))
  rw [hl, e8]
  refine K _ (fun j hj => ?_)
  by_cases e : j = i
  · subst e
    rw [ql_S (ql_s4 hj) ql_m4 (ql_lt (F := 8 + d) (w := 4) (by omega)) (by omega)]
    dsimp only
    rw [if_pos rfl]
    exact ⟨rfl, fun v hv => by cases hv; exact hd⟩
  · rw [ql_D (ql_s4 hi) (ql_s4 hj) ql_m4 (ql_lt (F := 8 + d) (w := 4) (by omega)) (by omega) (by omega)]
    dsimp only
    rw [if_neg e]
    exact h j hj
theorem ql_N0 : ql_N 0 (fun _ => none) := fun i hi => by
  refine ⟨?_, fun v hv => (nomatch hv)⟩
  match i, hi with
  | 0, _ => decide
  | 1, _ => decide
  | 2, _ => decide
  | 3, _ => decide
  | n + 4, h => omega
theorem ql_C0 : ql_C 0 (fun _ => none) := fun i hi => by
  refine ⟨?_, fun v hv => (nomatch hv)⟩
  match i, hi with
  | 0, _ => decide
  | 1, _ => decide
  | 2, _ => decide
  | 3, _ => decide
  | n + 4, h => omega
end QL
