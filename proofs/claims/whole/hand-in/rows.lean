section
/-! The cells of both sides are one function: each stage gives one new line, whatever is asked of it. -/
theorem lf_us {f : Nat → Int32} {k : Nat} {x : Int32} : upd f k x k = x := if_pos rfl
theorem lf_vs (z : Int32) : vp_nar .short z.toInt16.toInt32 = z.toInt16.toInt32 := by rw [vp_nar_short]; simp
/-- the left neighbour, mirrored at the edge -/
theorem lf_left (a : Nat → Int32) (j : Nat) (hj : j < 8) : ∃ l : Int32, ∀ post : Int32 → Prop, post l → wpX_left post a (nI j) := by
  cases j with
  | zero =>
    have z : nI 0 ≤ 0 := by rw [nI_0]; exact Int32.le_refl 0
    exact ⟨a 1, fun post hp => br_t z hp⟩
  | succ i =>
    have z : ¬ nI (i + 1) ≤ 0 := nI_nle (Nat.succ_pos i) (by omega)
    have hi : vp_in (nI (i + 1) - 1) 8 := by rw [nI_pred]; exact vp_in_nI (by omega) (by omega)
    exact ⟨a (nI (i + 1) - 1).toNatClampNeg, fun post hp => br_f z ⟨hi, hp⟩⟩
/-- the right neighbour, mirrored at the edge -/
theorem lf_right (a : Nat → Int32) (j : Nat) (hj : j < 8) : ∃ r : Int32, ∀ post : Int32 → Prop, post r → wpX_right post a (nI j) := by
  rcases Nat.lt_or_ge j 7 with s | s
  · have z : ¬ (7 : Int32) ≤ nI j := nI_ge (b := 7) s (by decide)
    have hi : vp_in (nI j + 1) 8 := by rw [nI_1]; exact vp_in_nI (by omega) (by omega)
    exact ⟨a (nI j + 1).toNatClampNeg, fun post hp => br_f z ⟨hi, hp⟩⟩
  · have z : (7 : Int32) ≤ nI j := nI_le (a := 7) s (by omega)
    exact ⟨a 6, fun post hp => br_t z hp⟩
theorem lf_end {j : Nat} (h : 8 ≤ j) (hj : j < 10) : (8 : Int32) ≤ nI j := nI_le (a := 8) h (by omega)
theorem lf_go {j : Nat} (h : j < 8) : ¬ (8 : Int32) ≤ nI j := nI_ge (b := 8) h (by decide)
theorem lf_2 (j : Nat) : nI j + 2 = nI (j + 2) := nI_add j 2
theorem lf_01 : ¬ (0 : Int32) = 1 := by decide
theorem lf_10 : ¬ (1 : Int32) = 0 := by decide
/-- predict: each odd cell is lowered, on both sides alike -/
theorem lf_predict : ∀ (d j : Nat) (a : Nat → Int32), j + 2 * d = 9 → ∃ A : Nat → Int32, (∀ post : SX → Prop, post A → wX_predict_2 post (d + 1) (nI j) a) ∧ (∀ post : SY → Prop, post A → wY_pass_8 post 1 0 (d + 1) (nI j) a) := by
  intro d
  induction d with
  | zero =>
    intro j a hj
    have h : (8 : Int32) ≤ nI j := lf_end (by omega) (by omega)
    exact ⟨a, fun _ hp => br_t h hp, fun _ hp => br_t h hp⟩
  | succ d ih =>
    intro j a hj
    have h8 : j < 8 := by omega
    have h : ¬ (8 : Int32) ≤ nI j := lf_go h8
    have hi : vp_in (nI j) 8 := vp_in_nI h8 (by decide)
    obtain ⟨l, hl⟩ := lf_left a j h8
    obtain ⟨r, hr⟩ := lf_right a j h8
    obtain ⟨A, hX, hY⟩ := ih (j + 2) (upd a (nI j).toNatClampNeg (vp_nar .short ((a (nI j).toNatClampNeg - ((l + r) >>> ((1 : Int32) &&& 31))).toInt16.toInt32))) (by omega)
    refine ⟨A, fun post hp => br_f h ⟨hi, ?_⟩, fun post hp => br_f h ?_⟩
    · unfold wpX_prediction
      refine hl _ ?_
      refine hr _ ?_
      exact ⟨hi, nm_e (nm_r (lf_2 j) (hX post hp))⟩
    · refine hl (fun z => wY_pass_32 post (wY_pass_8 post 1 0 (d + 1)) 1 0 (nI j) z a) ?_
      refine hr (fun z => wY_pass_54 post (wY_pass_8 post 1 0 (d + 1)) 1 0 (nI j) l z a) ?_
      exact br_t rfl (br_t rfl ⟨hi, hi, nm_e (nm_r (lf_2 j) (hY post hp))⟩)
/-- the whole stage -/
theorem lf_predict_w (a : Nat → Int32) : ∃ A : Nat → Int32, (∀ post : SX → Prop, post A → wpX_predict post a) ∧ (∀ post : SY → Prop, post A → wpY_pass post a 1 0) := by
  obtain ⟨A, hX, hY⟩ := lf_predict 4 1 a (by omega)
  exact ⟨A, fun post hp => ⟨5, hX post hp⟩, fun post hp => ⟨5, hY post hp⟩⟩
/-- undo predict: each odd cell is raised, on both sides alike -/
theorem lf_undoPredict : ∀ (d j : Nat) (a : Nat → Int32), j + 2 * d = 9 → ∃ A : Nat → Int32, (∀ post : SX → Prop, post A → wX_undoPredict_2 post (d + 1) (nI j) a) ∧ (∀ post : SY → Prop, post A → wY_pass_8 post 1 1 (d + 1) (nI j) a) := by
  intro d
  induction d with
  | zero =>
    intro j a hj
    have h : (8 : Int32) ≤ nI j := lf_end (by omega) (by omega)
    exact ⟨a, fun _ hp => br_t h hp, fun _ hp => br_t h hp⟩
  | succ d ih =>
    intro j a hj
    have h8 : j < 8 := by omega
    have h : ¬ (8 : Int32) ≤ nI j := lf_go h8
    have hi : vp_in (nI j) 8 := vp_in_nI h8 (by decide)
    obtain ⟨l, hl⟩ := lf_left a j h8
    obtain ⟨r, hr⟩ := lf_right a j h8
    obtain ⟨A, hX, hY⟩ := ih (j + 2) (upd a (nI j).toNatClampNeg (vp_nar .short ((a (nI j).toNatClampNeg + ((l + r) >>> ((1 : Int32) &&& 31))).toInt16.toInt32))) (by omega)
    refine ⟨A, fun post hp => br_f h ⟨hi, ?_⟩, fun post hp => br_f h ?_⟩
    · unfold wpX_prediction
      refine hl _ ?_
      refine hr _ ?_
      exact ⟨hi, nm_e (nm_r (lf_2 j) (hX post hp))⟩
    · refine hl (fun z => wY_pass_32 post (wY_pass_8 post 1 1 (d + 1)) 1 1 (nI j) z a) ?_
      refine hr (fun z => wY_pass_54 post (wY_pass_8 post 1 1 (d + 1)) 1 1 (nI j) l z a) ?_
      exact br_t rfl (br_f lf_10 ⟨hi, hi, nm_e (nm_r (lf_2 j) (hY post hp))⟩)
/-- the whole stage -/
theorem lf_undoPredict_w (a : Nat → Int32) : ∃ A : Nat → Int32, (∀ post : SX → Prop, post A → wpX_undoPredict post a) ∧ (∀ post : SY → Prop, post A → wpY_pass post a 1 1) := by
  obtain ⟨A, hX, hY⟩ := lf_undoPredict 4 1 a (by omega)
  exact ⟨A, fun post hp => ⟨5, hX post hp⟩, fun post hp => ⟨5, hY post hp⟩⟩
/-- update: each even cell is raised, on both sides alike -/
theorem lf_update : ∀ (d j : Nat) (a : Nat → Int32), j + 2 * d = 8 → ∃ A : Nat → Int32, (∀ post : SX → Prop, post A → wX_update_2 post (d + 1) (nI j) a) ∧ (∀ post : SY → Prop, post A → wY_pass_8 post 0 1 (d + 1) (nI j) a) := by
  intro d
  induction d with
  | zero =>
    intro j a hj
    have h : (8 : Int32) ≤ nI j := lf_end (by omega) (by omega)
    exact ⟨a, fun _ hp => br_t h hp, fun _ hp => br_t h hp⟩
  | succ d ih =>
    intro j a hj
    have h8 : j < 8 := by omega
    have h : ¬ (8 : Int32) ≤ nI j := lf_go h8
    have hi : vp_in (nI j) 8 := vp_in_nI h8 (by decide)
    obtain ⟨l, hl⟩ := lf_left a j h8
    obtain ⟨r, hr⟩ := lf_right a j h8
    obtain ⟨A, hX, hY⟩ := ih (j + 2) (upd a (nI j).toNatClampNeg (vp_nar .short ((a (nI j).toNatClampNeg + (((l + r) + 2) >>> ((2 : Int32) &&& 31))).toInt16.toInt32))) (by omega)
    refine ⟨A, fun post hp => br_f h ⟨hi, ?_⟩, fun post hp => br_f h ?_⟩
    · unfold wpX_correction
      refine hl _ ?_
      refine hr _ ?_
      exact ⟨hi, nm_e (nm_r (lf_2 j) (hX post hp))⟩
    · refine hl (fun z => wY_pass_32 post (wY_pass_8 post 0 1 (d + 1)) 0 1 (nI j) z a) ?_
      refine hr (fun z => wY_pass_54 post (wY_pass_8 post 0 1 (d + 1)) 0 1 (nI j) l z a) ?_
      exact br_f lf_01 (br_f lf_10 ⟨hi, hi, nm_e (nm_r (lf_2 j) (hY post hp))⟩)
/-- the whole stage -/
theorem lf_update_w (a : Nat → Int32) : ∃ A : Nat → Int32, (∀ post : SX → Prop, post A → wpX_update post a) ∧ (∀ post : SY → Prop, post A → wpY_pass post a 0 1) := by
  obtain ⟨A, hX, hY⟩ := lf_update 4 0 a (by omega)
  exact ⟨A, fun post hp => ⟨5, hX post hp⟩, fun post hp => ⟨5, hY post hp⟩⟩
/-- undo update: each even cell is lowered, on both sides alike -/
theorem lf_undoUpdate : ∀ (d j : Nat) (a : Nat → Int32), j + 2 * d = 8 → ∃ A : Nat → Int32, (∀ post : SX → Prop, post A → wX_undoUpdate_2 post (d + 1) (nI j) a) ∧ (∀ post : SY → Prop, post A → wY_pass_8 post 0 0 (d + 1) (nI j) a) := by
  intro d
  induction d with
  | zero =>
    intro j a hj
    have h : (8 : Int32) ≤ nI j := lf_end (by omega) (by omega)
    exact ⟨a, fun _ hp => br_t h hp, fun _ hp => br_t h hp⟩
  | succ d ih =>
    intro j a hj
    have h8 : j < 8 := by omega
    have h : ¬ (8 : Int32) ≤ nI j := lf_go h8
    have hi : vp_in (nI j) 8 := vp_in_nI h8 (by decide)
    obtain ⟨l, hl⟩ := lf_left a j h8
    obtain ⟨r, hr⟩ := lf_right a j h8
    obtain ⟨A, hX, hY⟩ := ih (j + 2) (upd a (nI j).toNatClampNeg (vp_nar .short ((a (nI j).toNatClampNeg - (((l + r) + 2) >>> ((2 : Int32) &&& 31))).toInt16.toInt32))) (by omega)
    refine ⟨A, fun post hp => br_f h ⟨hi, ?_⟩, fun post hp => br_f h ?_⟩
    · unfold wpX_correction
      refine hl _ ?_
      refine hr _ ?_
      exact ⟨hi, nm_e (nm_r (lf_2 j) (hX post hp))⟩
    · refine hl (fun z => wY_pass_32 post (wY_pass_8 post 0 0 (d + 1)) 0 0 (nI j) z a) ?_
      refine hr (fun z => wY_pass_54 post (wY_pass_8 post 0 0 (d + 1)) 0 0 (nI j) l z a) ?_
      exact br_f lf_01 (br_t rfl ⟨hi, hi, nm_e (nm_r (lf_2 j) (hY post hp))⟩)
/-- the whole stage -/
theorem lf_undoUpdate_w (a : Nat → Int32) : ∃ A : Nat → Int32, (∀ post : SX → Prop, post A → wpX_undoUpdate post a) ∧ (∀ post : SY → Prop, post A → wpY_pass post a 0 0) := by
  obtain ⟨A, hX, hY⟩ := lf_undoUpdate 4 0 a (by omega)
  exact ⟨A, fun post hp => ⟨5, hX post hp⟩, fun post hp => ⟨5, hY post hp⟩⟩
end
section
/-- the two lines hold the same cells -/
def i_Rel (k : Nat) (u : SX) (v : SY) : Prop := u = v
theorem i_up {k : Nat} {u : SX} {v : SY} (h : i_Rel k u v) : i_Rel (k + 3) u v := h
theorem i_vc0 : wpX_init (fun u => wpY_init (fun v => i_Rel 0 u v)) := rfl
theorem lf_in {x : Int32} (h0 : ¬ x < 0) (h7 : x ≤ 7) : vp_in x 8 := by
  obtain ⟨j, hj, rfl⟩ := nI_of2 (M := 7) (n := 7) (by decide) h0 h7
  exact vp_in_nI (by omega) (by decide)
theorem i_vc_set {k : Nat} {u : SX} {v : SY} (I : i_Rel k u v) (hk : k + 3 ≤ 1536) (v1 : Int32) (v2 : Int32) : wpX_set (fun r u' => wpY_set (fun r' v' => r' = r ∧ i_Rel (k + 3) u' v') v v1 v2) u v1 v2 := by
  cases I
  by_cases h0 : v1 < 0
  · exact br_t h0 (br_t h0 ⟨rfl, rfl⟩)
  · by_cases h7 : v1 ≤ 7
    · have hi : vp_in v1 8 := lf_in h0 h7
      refine br_f h0 (br_t h7 ⟨hi, fun a ea => ⟨hi, br_f h0 (br_t h7 ⟨hi, fun b eb => ⟨?_, ?_⟩⟩)⟩⟩)
      · rw [ea, lf_us, lf_vs]
      · exact ea.trans eb.symm
    · exact br_f h0 (br_f h7 (br_f h0 (br_f h7 ⟨rfl, rfl⟩)))
theorem i_vc_analyse {k : Nat} {u : SX} {v : SY} (I : i_Rel k u v) (hk : k + 3 ≤ 1536) : wpX_analyse (fun r u' => wpY_analyse (fun r' v' => r' = r ∧ i_Rel (k + 3) u' v') v) u := by
  cases I
  obtain ⟨A, hXA, hYA⟩ := lf_predict_w u
  obtain ⟨B, hXB, hYB⟩ := lf_update_w A
  unfold wpX_analyse
  refine hXA _ ?_
  refine hXB _ ?_
  unfold wpY_analyse
  refine hYA _ ?_
  refine hYB _ ?_
  exact ⟨rfl, rfl⟩
theorem i_vc_synthesise {k : Nat} {u : SX} {v : SY} (I : i_Rel k u v) (hk : k + 3 ≤ 1536) : wpX_synthesise (fun r u' => wpY_synthesise (fun r' v' => r' = r ∧ i_Rel (k + 3) u' v') v) u := by
  cases I
  obtain ⟨A, hXA, hYA⟩ := lf_undoUpdate_w u
  obtain ⟨B, hXB, hYB⟩ := lf_undoPredict_w A
  unfold wpX_synthesise
  refine hXA _ ?_
  refine hXB _ ?_
  unfold wpY_synthesise
  refine hYA _ ?_
  refine hYB _ ?_
  exact ⟨rfl, rfl⟩
theorem i_vc_get {k : Nat} {u : SX} {v : SY} (I : i_Rel k u v) (hk : k + 3 ≤ 1536) (v1 : Int32) : wpX_get (fun r => wpY_get (fun r' => r' = r ∧ i_Rel (k + 3) u v) v v1) u v1 := by
  cases I
  by_cases h0 : v1 < 0
  · exact br_t h0 (br_t h0 ⟨rfl, rfl⟩)
  · by_cases h7 : v1 ≤ 7
    · have hi : vp_in v1 8 := lf_in h0 h7
      exact br_f h0 (br_t h7 ⟨hi, br_f h0 (br_t h7 ⟨hi, rfl, rfl⟩)⟩)
    · exact br_f h0 (br_f h7 (br_f h0 (br_f h7 ⟨rfl, rfl⟩)))
end
