section QD
variable {ns : List (List Nat)} {Q : pm_Q}
/-- what may follow a command -/
def qd_E (r : List Nat) : Prop := r = [] ∨ ∃ c s, r = c :: s ∧ (c = 92 ∨ c = 123 ∨ c = 125)
theorem qd_e {C : Nat → Nat} {r : List Nat} (h : qa_C C) (hr : qd_E r) : qa_end C r := by
  have h92 : C 92 = 0 := qa_c h (by omega) rfl
  have h123 : C 123 = 1 := qa_c h (by omega) rfl
  have h125 : C 125 = 2 := qa_c h (by omega) rfl
  rcases hr with rfl | ⟨c, s, rfl, rfl | rfl | rfl⟩
  · exact Or.inl rfl
  · exact Or.inr ⟨_, _, rfl, by rw [h92]; decide, by rw [h92]; decide⟩
  · exact Or.inr ⟨_, _, rfl, by rw [h123]; decide, by rw [h123]; decide⟩
  · exact Or.inr ⟨_, _, rfl, by rw [h125]; decide, by rw [h125]; decide⟩
theorem qd_let {C : Nat → Nat} (h : qa_C C) : ∀ y, 97 ≤ y → y ≤ 122 → C y = 5 := fun y y1 y2 => by
  rw [h y (fun z => by unfold qa_four at z; omega)]
  unfold ci_C ci_c
  rw [if_neg (by omega), if_neg (by omega), if_neg (by omega), if_neg (by omega), if_neg (by omega), if_pos (by omega)]
theorem qd_add {w : List Nat} (hV : qb_V ns Q) (hf : ns.idxOf w < ns.length ∨ ns.length < 32) (h1 : 1 ≤ w.length) (h11 : w.length ≤ 11) (hc : ∀ c, c ∈ w → c < 128) : qb_V (qa_add ns w) Q := by
  unfold qa_add
  by_cases h : ns.idxOf w < ns.length
  · rw [if_pos h]
    exact hV
  · rw [if_neg h]
    have hl := hf.resolve_left h
    obtain ⟨⟨⟨⟨n1, n2, n3, n4⟩, i2, i3, i4, i5⟩, i6⟩, hp, hr, hr2, hnd⟩ := hV
    have el : (ns ++ [w]).length = ns.length + 1 := by rw [List.length_append]; rfl
    refine ⟨⟨⟨⟨?_, ?_, ?_, ?_⟩, i2, i3, i4, fun t ht => (nomatch ht)⟩, ?_⟩, hp.trans (List.prefix_append _ _), hr, hr2, ?_⟩
    · show 14 ≤ (ns ++ [w]).length
      have : 14 ≤ ns.length := n1
      omega
    · show (ns ++ [w]).length ≤ 32
      omega
    · show 8 < ((ns ++ [w]).getD 4 []).length
      have : 14 ≤ ns.length := n1
      rw [xr_getD_append_left (by omega)]
      exact n3
    · intro v hv
      rcases List.mem_append.mp hv with hv | hv
      · exact n4 v hv
      · cases List.mem_singleton.mp hv
        exact ⟨h1, h11, hc⟩
    · refine pi_Q_le i6 ?_
      show ns.length ≤ (ns ++ [w]).length
      omega
    · refine List.nodup_append.mpr ⟨hnd, List.pairwise_singleton _ _, fun a ha b hb => ?_⟩
      cases List.mem_singleton.mp hb
      intro z
      rw [z] at ha
      exact h (List.idxOf_lt_length_iff.mpr ha)
/-- where a command leads: to an error, or to a state -/
def qd_W (x : List Nat) (ns : List (List Nat)) (Q : pm_Q) (K : List (List Nat) → pm_Q → Prop) : Prop :=
  (∀ f r, qd_E r → 2 ≤ (pm_run true 100 (f + 1) ((0, x ++ r, [], ns), Q)).1.1) ∨ ∃ ns' Q', qb_V ns' Q' ∧ (∀ f r, qd_E r → pm_run true 100 (f + 1) ((0, x ++ r, [], ns), Q) = pm_run true 100 f ((0, r, [], ns'), Q')) ∧ K ns' Q'
theorem qd_stop {f : Nat} {P : pm_P} {k : Nat} (h : P.1.1 = k) (hk : 2 ≤ k) : 2 ≤ (pm_run true 100 f P).1.1 := by
  rw [pe_stop (by omega), h]
  exact hk
/-- a value given by a primitive's word n w, whose argument is y -/
theorem qd_asg {n p j k : Nat} {w y x : List Nat} {ns' : List (List Nat)} {g : Bool} {m : pm_Mn} {c : Prop} (hV : qb_V ns Q) (hx : x = 92 :: n :: (w ++ y)) (hy : ∀ r, ∃ c s, y ++ r = c :: s ∧ c = 92) (hn : Q.1 n = 5) (hw : ∀ c, c ∈ w → Q.1 c = 5) (h8 : w.length + 1 ≤ 8) (hm : (n :: w) ∈ ci_ns) (hp : ci_ns.idxOf (n :: w) = p)
    (hbad : ¬ c → ∀ r, (pm_act p ((0, y ++ r, [], ns), Q)).1.1 = 5) (hok : c → ∀ r, qd_E r → pm_act p ((0, y ++ r, [], ns), Q) = pm_assign g j m k ((0, r, [], ns'), Q)) (hV' : c → qb_V ns' Q)
    (hj : qb_it j) (hnm : c → j < 32 → j < ns'.length ∧ pi_mn ns'.length m) (hk : 32 ≤ j → k < 8) (hj2 : j < 160) :
    qd_W x ns Q (fun n1 Q' => n1 = ns' ∧ Q'.2.2.2.1 = Q.2.2.2.1 ∧ c ∧ ∀ e i, 1 ≤ e → e ≤ Q.2.2.2.1 → qv_O e i Q' = if g = true ∧ j = i then qv_v j m k else qv_O e i Q) := by
  have hrun : ∀ f r, pm_run true 100 (f + 1) ((0, x ++ r, [], ns), Q) = pm_run true 100 f (pm_act p ((0, y ++ r, [], ns), Q)) := fun f r => by
    obtain ⟨c, s, e1, e2⟩ := hy r
    have e3 : x ++ r = 92 :: n :: (w ++ (y ++ r)) := by rw [hx, List.cons_append, List.cons_append, List.append_assoc]
    rw [e3]
    exact qb_prim hV hn hw (qd_e hV.2.2.1.1 (by rw [e1]; exact Or.inr ⟨c, s, rfl, Or.inl e2⟩)) h8 hm hp
  by_cases hc : c
  · rcases qc_assign (g := g) (hV' hc) hj (hnm hc) hk hj2 with h | ⟨Q', h1, h2, h3, h4⟩
    · refine Or.inl (fun f r hr => ?_)
      rw [hrun, hok hc r hr]
      exact qd_stop (h r) (by decide)
    · refine Or.inr ⟨ns', Q', h2, fun f r hr => ?_, rfl, h3, hc, h4⟩
      rw [hrun, hok hc r hr, h1]
  · refine Or.inl (fun f r hr => ?_)
    rw [hrun]
    exact qd_stop (hbad hc r) (by decide)
/-- the words -/
def qd_wd (t : Nat) : List Nat := if t < 2 then [101, 102] else if t < 4 then [101, 116] else [97, 116, 99, 111, 100, 101]
def qd_w0 (t : Nat) : Nat := if t < 2 then 100 else if t < 4 then 108 else 99
def qd_arg (t i : Nat) (l : List Nat) : List Nat := if t < 2 then 92 :: (112 + i) :: 123 :: (l ++ [125]) else if t < 4 then 92 :: (112 + i) :: 32 :: l else 92 :: qa_tgt i :: l
def qd_txt (t i : Nat) (l : List Nat) : List Nat := if t = 6 then (if i = 1 then [123] else [92, 98, 101, 103, 105, 110, 103, 114, 111, 117, 112]) else if t = 7 then (if i = 1 then [125] else [92, 101, 110, 100, 103, 114, 111, 117, 112]) else if t % 2 = 1 then 92 :: 103 :: (qd_w0 t :: qd_wd t ++ qd_arg t i l) else 92 :: qd_w0 t :: (qd_wd t ++ qd_arg t i l)
/-- what a command gives: the item's name or char, the meaning, the catcode -/
def qd_nm (t i : Nat) : List Nat := if t < 4 then [112 + i] else [qa_tgt i]
def qd_mn (t : Nat) (l : List Nat) : pm_Mn := if t < 2 then (2, 0, [], l.map (fun c => 640 + c)) else if t < 4 then (3, 640 + l.getD 0 0, [], []) else pm_m0
def qd_kk (t : Nat) (l : List Nat) : Nat := if t < 4 then 0 else l.getD 0 0 - 48
def qd_ok (t i : Nat) (l : List Nat) : Prop := i < 4 ∧ (t < 2 → l.length ≤ 3 ∧ ∀ c, c ∈ l → 97 ≤ c ∧ c ≤ 104) ∧ (2 ≤ t → t < 4 → ∃ c, l = [c] ∧ 97 ≤ c ∧ c ≤ 104) ∧ (4 ≤ t → ∃ d, l = [48 + d] ∧ d < 8)
def qd_j (t i : Nat) (ns : List (List Nat)) : Nat := if t < 4 then ns.idxOf [112 + i] else 32 + qa_tgt i
theorem qd_tg {i : Nat} : qa_tgt i < 128 ∧ qa_four (qa_tgt i) := by
  unfold qa_tgt qa_four
  repeat' split
  all_goals omega
theorem qd_not {i : Nat} (hi : i < 4) : [112 + i] ∉ ci_ns := by
  match i, hi with
  | 0, _ => decide
  | 1, _ => decide
  | 2, _ => decide
  | 3, _ => decide
  | n + 4, h => omega
theorem qd_wb : ∀ t, t < 6 → ∀ c, c ∈ qd_w0 t :: qd_wd t → 97 ≤ c ∧ c ≤ 122 := by decide
theorem qd_odd : ∀ t, t < 6 → t % 2 = 1 → (qd_w0 t :: qd_wd t).length + 1 ≤ 8 ∧ (103 :: qd_w0 t :: qd_wd t) ∈ ci_ns ∧ ci_ns.idxOf (103 :: qd_w0 t :: qd_wd t) = (if t < 4 then t else t + 3) := by decide
theorem qd_even : ∀ t, t < 6 → ¬ t % 2 = 1 → (qd_wd t).length + 1 ≤ 8 ∧ (qd_w0 t :: qd_wd t) ∈ ci_ns ∧ ci_ns.idxOf (qd_w0 t :: qd_wd t) = (if t < 4 then t else t + 3) := by decide
theorem qd_six {t i : Nat} {l : List Nat} (hV : qb_V ns Q) (ht : t < 6) (h : qd_ok t i l) :
    qd_W (qd_txt t i l) ns Q (fun n1 Q' => n1 = qa_add ns (qd_nm t i) ∧ Q'.2.2.2.1 = Q.2.2.2.1 ∧ (ns.idxOf (qd_nm t i) < ns.length ∨ ns.length < 32) ∧ ∀ e j, 1 ≤ e → e ≤ Q.2.2.2.1 → qv_O e j Q' = if (t % 2 == 1) = true ∧ qd_j t i (qa_add ns (qd_nm t i)) = j then qv_v (qd_j t i (qa_add ns (qd_nm t i))) (qd_mn t l) (qd_kk t l) else qv_O e j Q) := by
  obtain ⟨hi, hd1, hd2, hd3⟩ := h
  have hC := hV.2.2.1.1
  have hL := qd_let hC
  have hnm1 : 1 ≤ (qd_nm t i).length ∧ (qd_nm t i).length ≤ 11 ∧ ∀ c, c ∈ qd_nm t i → c < 128 := by
    unfold qd_nm
    split
    · exact ⟨Nat.le_refl _, (by show 1 ≤ 11; decide), fun c hc => by cases List.mem_singleton.mp hc; omega⟩
    · exact ⟨Nat.le_refl _, (by show 1 ≤ 11; decide), fun c hc => by cases List.mem_singleton.mp hc; exact qd_tg.1⟩
  have hadd : (ns.idxOf (qd_nm t i) < ns.length ∨ ns.length < 32) → qb_V (qa_add ns (qd_nm t i)) Q := fun hf => qd_add hV hf hnm1.1 hnm1.2.1 hnm1.2.2
  have hidx : t < 4 → (ns.idxOf (qd_nm t i) < ns.length ∨ ns.length < 32) → qd_j t i (qa_add ns (qd_nm t i)) < (qa_add ns (qd_nm t i)).length ∧ 14 ≤ qd_j t i (qa_add ns (qd_nm t i)) := fun h4 hf => by
    have e1 : qd_nm t i = [112 + i] := by unfold qd_nm; rw [if_pos h4]
    have e2 : qd_j t i (qa_add ns (qd_nm t i)) = (qa_add ns [112 + i]).idxOf [112 + i] := by unfold qd_j; rw [if_pos h4, e1]
    rw [e1] at hf
    obtain ⟨k1, k2, k3, k4⟩ := qa_look (r := []) hf
    rw [e2, e1]
    exact ⟨k2, qb_idx (hV.2.1.trans k4) (qd_not hi)⟩
  have hmn : ∀ k, pi_mn k (qd_mn t l) := fun k => by
    unfold qd_mn
    split
    · next h2 =>
      obtain ⟨a1, a2⟩ := hd1 h2
      refine Or.inr (Or.inr (Or.inl ⟨rfl, Nat.zero_le _, ?_, rfl, fun y hy => (nomatch hy), fun y hy => ?_⟩))
      · show (l.map _).length ≤ 24
        rw [List.length_map]
        omega
      · obtain ⟨c, hc, rfl⟩ := List.mem_map.mp hy
        have := a2 c hc
        exact Or.inl (Or.inl ⟨by omega, by omega⟩)
    · split
      · next h2 h4 =>
        obtain ⟨c, rfl, c1, c2⟩ := hd2 (by omega) h4
        refine Or.inr (Or.inr (Or.inr ⟨rfl, ?_, ?_, rfl, rfl⟩))
        · show 128 ≤ 640 + c
          omega
        · show 640 + c < 896
          omega
      · exact Or.inl rfl
  have hkk : qd_kk t l < 8 := by
    unfold qd_kk
    split
    · decide
    · obtain ⟨d, rfl, hd⟩ := hd3 (by omega)
      show 48 + d - 48 < 8
      omega
  -- the primitive's own work
  have hact : (¬ (ns.idxOf (qd_nm t i) < ns.length ∨ ns.length < 32) → ∀ r, (pm_act (if t < 4 then t else t + 3) ((0, qd_arg t i l ++ r, [], ns), Q)).1.1 = 5) ∧ ((ns.idxOf (qd_nm t i) < ns.length ∨ ns.length < 32) → ∀ r, qd_E r → pm_act (if t < 4 then t else t + 3) ((0, qd_arg t i l ++ r, [], ns), Q) = pm_assign (t % 2 == 1) (qd_j t i (qa_add ns (qd_nm t i))) (qd_mn t l) (qd_kk t l) ((0, r, [], qa_add ns (qd_nm t i)), Q)) := by
    obtain ⟨C, M, q⟩ := Q
    have hC' : qa_C C := hC
    rcases (show t = 0 ∨ t = 1 ∨ t = 2 ∨ t = 3 ∨ t = 4 ∨ t = 5 by omega) with rfl | rfl | rfl | rfl | rfl | rfl
    · obtain ⟨a1, a2⟩ := hd1 (by decide)
      have e : ∀ r, qd_arg 0 i l ++ r = 92 :: (112 + i) :: 123 :: (l ++ 125 :: r) := fun r => by
        show (92 :: (112 + i) :: 123 :: (l ++ [125])) ++ r = _
        rw [List.cons_append, List.cons_append, List.cons_append, List.append_assoc]
        rfl
      exact ⟨fun hf r => by rw [e]; exact (qb_def (g := false) (q := (M, q)) hC' a2 a1 hi).1 hf, fun hf r _ => by rw [e]; exact (qb_def (g := false) (q := (M, q)) hC' a2 a1 hi).2 hf⟩
    · obtain ⟨a1, a2⟩ := hd1 (by decide)
      have e : ∀ r, qd_arg 1 i l ++ r = 92 :: (112 + i) :: 123 :: (l ++ 125 :: r) := fun r => by
        show (92 :: (112 + i) :: 123 :: (l ++ [125])) ++ r = _
        rw [List.cons_append, List.cons_append, List.cons_append, List.append_assoc]
        rfl
      exact ⟨fun hf r => by rw [e]; exact (qb_def (g := true) (q := (M, q)) hC' a2 a1 hi).1 hf, fun hf r _ => by rw [e]; exact (qb_def (g := true) (q := (M, q)) hC' a2 a1 hi).2 hf⟩
    · obtain ⟨c, rfl, c1, c2⟩ := hd2 (by decide) (by decide)
      exact ⟨fun hf r => (qb_let (g := false) (q := q) hC' ⟨c1, c2⟩ hi).1 hf, fun hf r _ => (qb_let (g := false) (q := q) hC' ⟨c1, c2⟩ hi).2 hf⟩
    · obtain ⟨c, rfl, c1, c2⟩ := hd2 (by decide) (by decide)
      exact ⟨fun hf r => (qb_let (g := true) (q := q) hC' ⟨c1, c2⟩ hi).1 hf, fun hf r _ => (qb_let (g := true) (q := q) hC' ⟨c1, c2⟩ hi).2 hf⟩
    · obtain ⟨d, rfl, hd⟩ := hd3 (by decide)
      have e : qd_kk 4 [48 + d] = d := Nat.add_sub_cancel_left _ _
      refine ⟨fun hf r => (qb_catc (g := false) (q := (M, q)) hC' hd qd_tg.1).1 hf, fun hf r _ => ?_⟩
      rw [e]
      exact (qb_catc (g := false) (q := (M, q)) hC' hd qd_tg.1).2 hf
    · obtain ⟨d, rfl, hd⟩ := hd3 (by decide)
      have e : qd_kk 5 [48 + d] = d := Nat.add_sub_cancel_left _ _
      refine ⟨fun hf r => (qb_catc (g := true) (q := (M, q)) hC' hd qd_tg.1).1 hf, fun hf r _ => ?_⟩
      rw [e]
      exact (qb_catc (g := true) (q := (M, q)) hC' hd qd_tg.1).2 hf
  have hy : ∀ r, ∃ c s, qd_arg t i l ++ r = c :: s ∧ c = 92 := fun r => by
    unfold qd_arg
    split
    · exact ⟨_, _, rfl, rfl⟩
    · split
      · exact ⟨_, _, rfl, rfl⟩
      · exact ⟨_, _, rfl, rfl⟩
  have hlet : ∀ c, c ∈ qd_w0 t :: qd_wd t → Q.1 c = 5 := fun c hc => by
    have hb := qd_wb t ht c hc
    exact hL c hb.1 hb.2
  have hjit : (ns.idxOf (qd_nm t i) < ns.length ∨ ns.length < 32) → qb_it (qd_j t i (qa_add ns (qd_nm t i))) ∧ qd_j t i (qa_add ns (qd_nm t i)) < 160 ∧ (qd_j t i (qa_add ns (qd_nm t i)) < 32 → t < 4) := fun hf => by
    by_cases h4 : t < 4
    · obtain ⟨b1, b2⟩ := hidx h4 hf
      have h32 : (qa_add ns (qd_nm t i)).length ≤ 32 := (hadd hf).1.1.1.2.1
      exact ⟨⟨fun _ => b2, fun z => by omega⟩, by omega, fun _ => h4⟩
    · have e : qd_j t i (qa_add ns (qd_nm t i)) = 32 + qa_tgt i := by unfold qd_j; rw [if_neg h4]
      rw [e]
      have h1 := (qd_tg (i := i)).1
      exact ⟨⟨fun z => by omega, fun _ => by rw [Nat.add_sub_cancel_left]; exact qd_tg.2⟩, by omega, fun z => by omega⟩
  by_cases hf : ns.idxOf (qd_nm t i) < ns.length ∨ ns.length < 32
  · obtain ⟨j1, j2, j3⟩ := hjit hf
    by_cases hodd : t % 2 = 1
    · refine qd_asg (n := 103) (w := qd_w0 t :: qd_wd t) (y := qd_arg t i l) (p := if t < 4 then t else t + 3) (c := ns.idxOf (qd_nm t i) < ns.length ∨ ns.length < 32) hV ?_ hy (hL 103 (by decide) (by decide)) hlet (qd_odd t ht hodd).1 (qd_odd t ht hodd).2.1 (qd_odd t ht hodd).2.2 hact.1 hact.2 hadd j1 (fun hf' hlt => ⟨(hidx (j3 hlt) hf').1, hmn _⟩) (fun _ => hkk) j2
      · unfold qd_txt
        rw [if_neg (by omega), if_neg (by omega), if_pos hodd]
    · refine qd_asg (n := qd_w0 t) (w := qd_wd t) (y := qd_arg t i l) (p := if t < 4 then t else t + 3) (c := ns.idxOf (qd_nm t i) < ns.length ∨ ns.length < 32) hV ?_ hy (hlet _ List.mem_cons_self) (fun c hc => hlet c (List.mem_cons_of_mem _ hc)) (qd_even t ht hodd).1 (qd_even t ht hodd).2.1 (qd_even t ht hodd).2.2 hact.1 hact.2 hadd j1 (fun hf' hlt => ⟨(hidx (j3 hlt) hf').1, hmn _⟩) (fun _ => hkk) j2
      · unfold qd_txt
        rw [if_neg (by omega), if_neg (by omega), if_neg hodd]
  · -- no room for the name
    refine Or.inl (fun f r hr => ?_)
    have e2 : ∃ n w, qd_txt t i l = 92 :: n :: (w ++ qd_arg t i l) ∧ Q.1 n = 5 ∧ (∀ c, c ∈ w → Q.1 c = 5) ∧ w.length + 1 ≤ 8 ∧ (n :: w) ∈ ci_ns ∧ ci_ns.idxOf (n :: w) = (if t < 4 then t else t + 3) := by
      by_cases hodd : t % 2 = 1
      · refine ⟨103, qd_w0 t :: qd_wd t, ?_, hL 103 (by decide) (by decide), hlet, (qd_odd t ht hodd).1, (qd_odd t ht hodd).2.1, (qd_odd t ht hodd).2.2⟩
        · unfold qd_txt
          rw [if_neg (by omega), if_neg (by omega), if_pos hodd]
      · refine ⟨qd_w0 t, qd_wd t, ?_, hlet _ List.mem_cons_self, fun c hc => hlet c (List.mem_cons_of_mem _ hc), (qd_even t ht hodd).1, (qd_even t ht hodd).2.1, (qd_even t ht hodd).2.2⟩
        · unfold qd_txt
          rw [if_neg (by omega), if_neg (by omega), if_neg hodd]
    obtain ⟨n, w, ex, en, ew, e8, em, ep⟩ := e2
    obtain ⟨c, s, y1, y2⟩ := hy r
    have e3 : qd_txt t i l ++ r = 92 :: n :: (w ++ (qd_arg t i l ++ r)) := by rw [ex, List.cons_append, List.cons_append, List.append_assoc]
    rw [e3, qb_prim hV en ew (qd_e hC (by rw [y1]; exact Or.inr ⟨c, s, rfl, Or.inl y2⟩)) e8 em ep]
    exact qd_stop (hact.1 hf r) (by decide)
end QD
