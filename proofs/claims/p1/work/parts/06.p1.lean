/-- the first call alone: both objects are fresh -/
def i_Rel (k : Nat) (u : SX) (v : SY) : Prop := k ≤ 1 → ∃ L : Int32, ci_SX L u ∧ cj_SY L v
theorem i_up {k : Nat} {u : SX} {v : SY} (h : i_Rel k u v) : i_Rel (k + 4) u v := fun z => by omega
theorem i_vc0 (k0 : Int32) : wpX_init (fun u => wpY_init (fun v => i_Rel 1 u v) k0) k0 := ci_initX fun u hu => cj_initY fun v hv => fun _ => ⟨_, hu, hv⟩
theorem fx_5 {k : Nat} {u : SX} {v : SY} : i_Rel (k + 4) u v := fun z => by omega
theorem fx_mm {mm : Nat → Int32} (h : ci_MM mm 14) : ∀ j, j < 14 → mm (j * 36) = 1 ∧ mm (j * 36 + 1) = nI j := fun j hj => by
  rw [h, h, if_pos (by omega), if_pos (by omega), if_pos (by omega), if_neg (by omega), if_pos (by omega), show (j * 36 + 1) / 36 = j from by omega]
  exact ⟨rfl, rfl⟩
theorem fx_kv {kd vl : Nat → Int32} (h : cj_KV kd vl 14) : ∀ j, j < 14 → kd j = 1 ∧ vl j = nI j := fun j hj => by
  rw [(h j).1, (h j).2, if_pos hj, if_pos hj]
  exact ⟨rfl, rfl⟩
theorem i_vc_feed {k : Nat} {u : SX} {v : SY} (I : i_Rel k u v) (hk : k + 4 ≤ 5) (v1 : Int32) : wpX_feed (fun r u' => wpY_feed (fun r' v' => r' = r ∧ i_Rel (k + 4) u' v') v v1) u v1 := by
  obtain ⟨L, ⟨cat, nl, ch, mm, hc, hN, hM, rfl⟩, ⟨cat', nl', ch', kd, vl, hc', hN', hK, rfl⟩⟩ := I (by omega)
  refine br_t rfl ?_
  by_cases z0 : v1 < 0
  · exact br_t z0 (br_t rfl (br_t z0 ⟨rfl, fx_5⟩))
  · refine br_f z0 ?_
    by_cases z1 : (128 : Int32) ≤ v1
    · have z2 : (127 : Int32) < v1 := Int32.lt_of_lt_of_le (by decide) z1
      exact br_t z1 (br_t rfl (br_f z0 (br_t z2 ⟨rfl, fx_5⟩)))
    · have z2 : ¬ (127 : Int32) < v1 := by
        obtain ⟨j, hj, rfl⟩ := nI_of z0
        intro z3
        have a := (nI_ltI (a := 127) (b := j) (by decide) hj).mp z3
        exact z1 (nI_le (a := 128) (b := j) (by omega) hj)
      refine br_f z1 (br_t (by decide) ⟨vp_in_nI (n := 0) (by decide) (by decide), fun a ea y ey => ?_⟩)
      exact br_t rfl (br_f z0 (br_f z2 (br_f (by decide) ⟨vp_in_nI (n := 0) (by decide) (by decide), fun a' ea' y' ey' => ⟨rfl, fx_5⟩⟩)))
theorem i_vc_run {k : Nat} {u : SX} {v : SY} (I : i_Rel k u v) (hk : k + 4 ≤ 5) : wpX_run (fun r u' => wpY_run (fun r' v' => r' = r ∧ i_Rel (k + 4) u' v') v) u := by
  obtain ⟨L, ⟨cat, nl, ch, mm, hc, hN, hM, rfl⟩, ⟨cat', nl', ch', kd, vl, hc', hN', hK, rfl⟩⟩ := I (by omega)
  refine ⟨1, br_f (by decide) (br_t rfl (br_t rfl (br_t (by decide) ⟨1, br_t (by decide) ?_⟩)))⟩
  refine br_f (c := (1024 : Int32) ≤ -1) (by decide) ?_
  refine br_f (c := (3 : Int32) = 1) (by decide) ?_
  refine br_f (c := (-1 : Int32) = 4) (by decide) ?_
  refine br_t rfl ?_
  refine br_t rfl ⟨1, br_f (by decide) (br_t rfl (br_t (by decide) ⟨1, br_f (by decide) (br_t (by decide) ?_)⟩))⟩
  exact br_t rfl (br_f (by decide) ⟨rfl, fx_5⟩)
theorem i_vc_status {k : Nat} {u : SX} {v : SY} (I : i_Rel k u v) (hk : k + 4 ≤ 5) : wpX_status (fun r => wpY_status (fun r' => r' = r ∧ i_Rel (k + 4) u v) v) u := by
  obtain ⟨L, ⟨cat, nl, ch, mm, hc, hN, hM, rfl⟩, ⟨cat', nl', ch', kd, vl, hc', hN', hK, rfl⟩⟩ := I (by omega)
  exact ⟨rfl, fx_5⟩
theorem i_vc_expansionsUsed {k : Nat} {u : SX} {v : SY} (I : i_Rel k u v) (hk : k + 4 ≤ 5) : wpX_expansionsUsed (fun r => wpY_expansionsUsed (fun r' => r' = r ∧ i_Rel (k + 4) u v) v) u := by
  obtain ⟨L, ⟨cat, nl, ch, mm, hc, hN, hM, rfl⟩, ⟨cat', nl', ch', kd, vl, hc', hN', hK, rfl⟩⟩ := I (by omega)
  exact ⟨rfl, fx_5⟩
theorem i_vc_outputLength {k : Nat} {u : SX} {v : SY} (I : i_Rel k u v) (hk : k + 4 ≤ 5) : wpX_outputLength (fun r => wpY_outputLength (fun r' => r' = r ∧ i_Rel (k + 4) u v) v) u := by
  obtain ⟨L, ⟨cat, nl, ch, mm, hc, hN, hM, rfl⟩, ⟨cat', nl', ch', kd, vl, hc', hN', hK, rfl⟩⟩ := I (by omega)
  exact ⟨rfl, fx_5⟩
theorem i_vc_outputToken {k : Nat} {u : SX} {v : SY} (I : i_Rel k u v) (hk : k + 4 ≤ 5) (v1 : Int32) : wpX_outputToken (fun r => wpY_outputToken (fun r' => r' = r ∧ i_Rel (k + 4) u v) v v1) u v1 := by
  obtain ⟨L, ⟨cat, nl, ch, mm, hc, hN, hM, rfl⟩, ⟨cat', nl', ch', kd, vl, hc', hN', hK, rfl⟩⟩ := I (by omega)
  exact gt_outputToken (n := 0) (by decide) (fun j hj => absurd hj (Nat.not_lt_zero _)) fx_5
theorem i_vc_catcode {k : Nat} {u : SX} {v : SY} (I : i_Rel k u v) (hk : k + 4 ≤ 5) (v1 : Int32) : wpX_catcode (fun r => wpY_catcode (fun r' => r' = r ∧ i_Rel (k + 4) u v) v v1) u v1 := by
  obtain ⟨L, ⟨cat, nl, ch, mm, hc, hN, hM, rfl⟩, ⟨cat', nl', ch', kd, vl, hc', hN', hK, rfl⟩⟩ := I (by omega)
  exact gt_catcode (fun j hj => (hc j hj).trans (hc' j hj).symm) fx_5
theorem i_vc_groupDepth {k : Nat} {u : SX} {v : SY} (I : i_Rel k u v) (hk : k + 4 ≤ 5) : wpX_groupDepth (fun r => wpY_groupDepth (fun r' => r' = r ∧ i_Rel (k + 4) u v) v) u := by
  obtain ⟨L, ⟨cat, nl, ch, mm, hc, hN, hM, rfl⟩, ⟨cat', nl', ch', kd, vl, hc', hN', hK, rfl⟩⟩ := I (by omega)
  exact ⟨rfl, fx_5⟩
theorem i_vc_condDepth {k : Nat} {u : SX} {v : SY} (I : i_Rel k u v) (hk : k + 4 ≤ 5) : wpX_condDepth (fun r => wpY_condDepth (fun r' => r' = r ∧ i_Rel (k + 4) u v) v) u := by
  obtain ⟨L, ⟨cat, nl, ch, mm, hc, hN, hM, rfl⟩, ⟨cat', nl', ch', kd, vl, hc', hN', hK, rfl⟩⟩ := I (by omega)
  exact ⟨rfl, fx_5⟩
theorem i_vc_nameCount {k : Nat} {u : SX} {v : SY} (I : i_Rel k u v) (hk : k + 4 ≤ 5) : wpX_nameCount (fun r => wpY_nameCount (fun r' => r' = r ∧ i_Rel (k + 4) u v) v) u := by
  obtain ⟨L, ⟨cat, nl, ch, mm, hc, hN, hM, rfl⟩, ⟨cat', nl', ch', kd, vl, hc', hN', hK, rfl⟩⟩ := I (by omega)
  exact ⟨rfl, fx_5⟩
theorem i_vc_nameLength {k : Nat} {u : SX} {v : SY} (I : i_Rel k u v) (hk : k + 4 ≤ 5) (v1 : Int32) : wpX_nameLength (fun r => wpY_nameLength (fun r' => r' = r ∧ i_Rel (k + 4) u v) v v1) u v1 := by
  obtain ⟨L, ⟨cat, nl, ch, mm, hc, hN, hM, rfl⟩, ⟨cat', nl', ch', kd, vl, hc', hN', hK, rfl⟩⟩ := I (by omega)
  exact gt_nameLength (k := 14) (by decide) (fun j hj => (hN.1 j hj).1.trans (hN'.1 j hj).1.symm) fx_5
theorem i_vc_nameChar {k : Nat} {u : SX} {v : SY} (I : i_Rel k u v) (hk : k + 4 ≤ 5) (v1 : Int32) (v2 : Int32) : wpX_nameChar (fun r => wpY_nameChar (fun r' => r' = r ∧ i_Rel (k + 4) u v) v v1 v2) u v1 v2 := by
  obtain ⟨L, ⟨cat, nl, ch, mm, hc, hN, hM, rfl⟩, ⟨cat', nl', ch', kd, vl, hc', hN', hK, rfl⟩⟩ := I (by omega)
  exact gt_nameChar (ns := ci_ns) (by decide) (by decide) hN.1 hN'.1 fx_5
theorem i_vc_meaningKind {k : Nat} {u : SX} {v : SY} (I : i_Rel k u v) (hk : k + 4 ≤ 5) (v1 : Int32) : wpX_meaningKind (fun r => wpY_meaningKind (fun r' => r' = r ∧ i_Rel (k + 4) u v) v v1) u v1 := by
  obtain ⟨L, ⟨cat, nl, ch, mm, hc, hN, hM, rfl⟩, ⟨cat', nl', ch', kd, vl, hc', hN', hK, rfl⟩⟩ := I (by omega)
  exact gt_meaningKind (k := 14) (by decide) (fun j hj => (fx_mm hM j hj).1.trans (fx_kv hK j hj).1.symm) fx_5
theorem i_vc_meaningValue {k : Nat} {u : SX} {v : SY} (I : i_Rel k u v) (hk : k + 4 ≤ 5) (v1 : Int32) : wpX_meaningValue (fun r => wpY_meaningValue (fun r' => r' = r ∧ i_Rel (k + 4) u v) v v1) u v1 := by
  obtain ⟨L, ⟨cat, nl, ch, mm, hc, hN, hM, rfl⟩, ⟨cat', nl', ch', kd, vl, hc', hN', hK, rfl⟩⟩ := I (by omega)
  exact gt_meaningValue (k := 14) (by decide) (fun j hj => ⟨fun z => absurd ((fx_kv hK j hj).1.symm.trans z) (by decide), fun _ => (fx_mm hM j hj).2.trans (fx_kv hK j hj).2.symm⟩) fx_5
theorem i_vc_macroTextLength {k : Nat} {u : SX} {v : SY} (I : i_Rel k u v) (hk : k + 4 ≤ 5) (v1 : Int32) (v2 : Int32) : wpX_macroTextLength (fun r => wpY_macroTextLength (fun r' => r' = r ∧ i_Rel (k + 4) u v) v v1 v2) u v1 v2 := by
  obtain ⟨L, ⟨cat, nl, ch, mm, hc, hN, hM, rfl⟩, ⟨cat', nl', ch', kd, vl, hc', hN', hK, rfl⟩⟩ := I (by omega)
  unfold wpX_macroTextLength
  refine gt_noText (k := 14) (by decide) (fun j hj => by rw [(fx_mm hM j hj).1]; decide) ?_
  exact gt_noTextY (k := 14) (by decide) (fun j hj => by rw [(fx_kv hK j hj).1]; decide) ⟨rfl, fx_5⟩
theorem i_vc_macroTextToken {k : Nat} {u : SX} {v : SY} (I : i_Rel k u v) (hk : k + 4 ≤ 5) (v1 : Int32) (v2 : Int32) (v3 : Int32) : wpX_macroTextToken (fun r => wpY_macroTextToken (fun r' => r' = r ∧ i_Rel (k + 4) u v) v v1 v2 v3) u v1 v2 v3 := by
  obtain ⟨L, ⟨cat, nl, ch, mm, hc, hN, hM, rfl⟩, ⟨cat', nl', ch', kd, vl, hc', hN', hK, rfl⟩⟩ := I (by omega)
  unfold wpX_macroTextToken
  refine gt_noText (k := 14) (by decide) (fun j hj => by rw [(fx_mm hM j hj).1]; decide) ?_
  have Y : ∀ R : Prop, R → wpY_macroTextToken (fun r' => r' = -1 ∧ R) (L, 0, 0, 0, 0, 0, 0, 0, 14, 0, 0, 0, (fun _ => 0), cat', (fun _ => 0), (fun _ => 0), nl', ch', kd, vl, (fun _ => 0), (fun _ => 0), (fun _ => 0), (fun _ => 0), (fun _ => 0), (fun _ => 0), (fun _ => 0), (fun _ => 0), (fun _ => 0), (fun _ => 0), (fun _ => 0)) v1 v2 v3 := fun R hR => by
    unfold wpY_macroTextToken
    exact gt_noTextY (k := 14) (by decide) (fun j hj => by rw [(fx_kv hK j hj).1]; decide) (br_t (by decide) ⟨rfl, hR⟩)
  by_cases z0 : v3 < 0
  · exact br_t z0 (Y _ fx_5)
  · refine br_f z0 (br_f ?_ (Y _ fx_5))
    intro z1
    exact z0 (Int32.lt_trans z1 (by decide))
