/-- how the two objects stand to each other: at every call the same -/
def i_Rel (_ : Nat) (u : SX) (v : SY) : Prop := i_R u v
theorem i_up {k : Nat} {u : SX} {v : SY} (h : i_Rel k u v) : i_Rel (k + 4) u v := h
theorem i_vc0 (k0 : Int32) : wpX_init (fun u => wpY_init (fun v => i_Rel 1 u v) k0) k0 := ci_initX fun u hu => cj_initY fun v hv => ii_init hu hv
theorem i_vc_feed {k : Nat} {u : SX} {v : SY} (I : i_Rel k u v) (hk : k + 4 ≤ 2049) (v1 : Int32) : wpX_feed (fun r u' => wpY_feed (fun r' v' => i_Rel (k + 4) u' v') v v1) u v1 := ii_feed I (fun r u' v' h => h)
theorem i_vc_run {k : Nat} {u : SX} {v : SY} (I : i_Rel k u v) (hk : k + 4 ≤ 2049) : wpX_run (fun r u' => wpY_run (fun r' v' => i_Rel (k + 4) u' v') v) u := ii_run I (fun r r' u' v' h => h)
theorem i_vc_status {k : Nat} {u : SX} {v : SY} (I : i_Rel k u v) (hk : k + 4 ≤ 2049) : wpX_status (fun r => wpY_status (fun r' => i_Rel (k + 4) u v) v) u := ih_status I (fun r r' => I)
theorem i_vc_expansionsUsed {k : Nat} {u : SX} {v : SY} (I : i_Rel k u v) (hk : k + 4 ≤ 2049) : wpX_expansionsUsed (fun r => wpY_expansionsUsed (fun r' => i_Rel (k + 4) u v) v) u := ih_used I (fun r => I)
theorem i_vc_outputLength {k : Nat} {u : SX} {v : SY} (I : i_Rel k u v) (hk : k + 4 ≤ 2049) : wpX_outputLength (fun r => wpY_outputLength (fun r' => i_Rel (k + 4) u v) v) u := ih_olen I (fun r => I)
theorem i_vc_outputToken {k : Nat} {u : SX} {v : SY} (I : i_Rel k u v) (hk : k + 4 ≤ 2049) (v1 : Int32) : wpX_outputToken (fun r => wpY_outputToken (fun r' => i_Rel (k + 4) u v) v v1) u v1 := ih_otok I (fun r => I)
theorem i_vc_catcode {k : Nat} {u : SX} {v : SY} (I : i_Rel k u v) (hk : k + 4 ≤ 2049) (v1 : Int32) : wpX_catcode (fun r => wpY_catcode (fun r' => i_Rel (k + 4) u v) v v1) u v1 := ih_cat I (fun r => I)
theorem i_vc_groupDepth {k : Nat} {u : SX} {v : SY} (I : i_Rel k u v) (hk : k + 4 ≤ 2049) : wpX_groupDepth (fun r => wpY_groupDepth (fun r' => i_Rel (k + 4) u v) v) u := ih_gd I (fun r => I)
theorem i_vc_condDepth {k : Nat} {u : SX} {v : SY} (I : i_Rel k u v) (hk : k + 4 ≤ 2049) : wpX_condDepth (fun r => wpY_condDepth (fun r' => i_Rel (k + 4) u v) v) u := ih_cd I (fun r => I)
theorem i_vc_nameCount {k : Nat} {u : SX} {v : SY} (I : i_Rel k u v) (hk : k + 4 ≤ 2049) : wpX_nameCount (fun r => wpY_nameCount (fun r' => i_Rel (k + 4) u v) v) u := ih_nc I (fun r r' => I)
theorem i_vc_nameLength {k : Nat} {u : SX} {v : SY} (I : i_Rel k u v) (hk : k + 4 ≤ 2049) (v1 : Int32) : wpX_nameLength (fun r => wpY_nameLength (fun r' => i_Rel (k + 4) u v) v v1) u v1 := ih_nlen I (fun r r' => I)
theorem i_vc_nameChar {k : Nat} {u : SX} {v : SY} (I : i_Rel k u v) (hk : k + 4 ≤ 2049) (v1 : Int32) (v2 : Int32) : wpX_nameChar (fun r => wpY_nameChar (fun r' => i_Rel (k + 4) u v) v v1 v2) u v1 v2 := ih_nch I (fun r r' => I)
theorem i_vc_meaningKind {k : Nat} {u : SX} {v : SY} (I : i_Rel k u v) (hk : k + 4 ≤ 2049) (v1 : Int32) : wpX_meaningKind (fun r => wpY_meaningKind (fun r' => i_Rel (k + 4) u v) v v1) u v1 := ih_mk I (fun r r' => I)
theorem i_vc_meaningValue {k : Nat} {u : SX} {v : SY} (I : i_Rel k u v) (hk : k + 4 ≤ 2049) (v1 : Int32) : wpX_meaningValue (fun r => wpY_meaningValue (fun r' => i_Rel (k + 4) u v) v v1) u v1 := ih_mv I (fun r r' => I)
theorem i_vc_macroTextLength {k : Nat} {u : SX} {v : SY} (I : i_Rel k u v) (hk : k + 4 ≤ 2049) (v1 : Int32) (v2 : Int32) : wpX_macroTextLength (fun r => wpY_macroTextLength (fun r' => r' = r ∧ i_Rel (k + 4) u v) v v1 v2) u v1 v2 := ih_mtl I (fun r => ⟨rfl, I⟩)
theorem i_vc_macroTextToken {k : Nat} {u : SX} {v : SY} (I : i_Rel k u v) (hk : k + 4 ≤ 2049) (v1 : Int32) (v2 : Int32) (v3 : Int32) : wpX_macroTextToken (fun r => wpY_macroTextToken (fun r' => r' = r ∧ i_Rel (k + 4) u v) v v1 v2 v3) u v1 v2 v3 := ih_mtt I (fun r => ⟨rfl, I⟩)
