/-- the two lines hold the same cells -/
def i_Rel (k : Nat) (u : SX) (v : SY) : Prop := u = v
theorem i_up {k : Nat} {u : SX} {v : SY} (h : i_Rel k u v) : i_Rel (k + 3) u v := h
theorem i_vc0 : wpX_init (fun u => wpY_init (fun v => i_Rel 0 u v)) := rfl
theorem lf_in {x : Int32} (h0 : ¬ x < 0) (h7 : x ≤ 7) : vp_in x 8 := by
  obtain ⟨j, hj, rfl⟩ := nI_of2 (M := 7) (n := 7) (by decide) h0 h7
  exact vp_in_nI (by omega) (by decide)
theorem i_vc_set {k : Nat} {u : SX} {v : SY} (I : i_Rel k u v) (hk : k + 3 ≤ 1536) (v1 : Int32) (v2 : Int32) : wpX_set (fun r u' => wpY_set (fun r' v' => r' = r ∧ i_Rel (k + 3) u' v') v v1 v2) u v1 v2 := by
  cases I
  by_cases h0 : v1 < 0
  · exact br_t h0 (br_t h0 ⟨rfl, rfl⟩)
  · by_cases h7 : v1 ≤ 7
    · have hi : vp_in v1 8 := lf_in h0 h7
      refine br_f h0 (br_t h7 ⟨hi, fun a ea => ⟨hi, br_f h0 (br_t h7 ⟨hi, fun b eb => ⟨?_, ?_⟩⟩)⟩⟩)
      · rw [ea, lf_us, lf_vs]
      · exact ea.trans eb.symm
    · exact br_f h0 (br_f h7 (br_f h0 (br_f h7 ⟨rfl, rfl⟩)))
theorem i_vc_analyse {k : Nat} {u : SX} {v : SY} (I : i_Rel k u v) (hk : k + 3 ≤ 1536) : wpX_analyse (fun r u' => wpY_analyse (fun r' v' => r' = r ∧ i_Rel (k + 3) u' v') v) u := by
  cases I
  obtain ⟨A, hXA, hYA⟩ := lf_predict_w u
  obtain ⟨B, hXB, hYB⟩ := lf_update_w A
  unfold wpX_analyse
  refine hXA _ ?_
  refine hXB _ ?_
  unfold wpY_analyse
  refine hYA _ ?_
  refine hYB _ ?_
  exact ⟨rfl, rfl⟩
theorem i_vc_synthesise {k : Nat} {u : SX} {v : SY} (I : i_Rel k u v) (hk : k + 3 ≤ 1536) : wpX_synthesise (fun r u' => wpY_synthesise (fun r' v' => r' = r ∧ i_Rel (k + 3) u' v') v) u := by
  cases I
  obtain ⟨A, hXA, hYA⟩ := lf_undoUpdate_w u
  obtain ⟨B, hXB, hYB⟩ := lf_undoPredict_w A
  unfold wpX_synthesise
  refine hXA _ ?_
  refine hXB _ ?_
  unfold wpY_synthesise
  refine hYA _ ?_
  refine hYB _ ?_
  exact ⟨rfl, rfl⟩
theorem i_vc_get {k : Nat} {u : SX} {v : SY} (I : i_Rel k u v) (hk : k + 3 ≤ 1536) (v1 : Int32) : wpX_get (fun r => wpY_get (fun r' => r' = r ∧ i_Rel (k + 3) u v) v v1) u v1 := by
  cases I
  by_cases h0 : v1 < 0
  · exact br_t h0 (br_t h0 ⟨rfl, rfl⟩)
  · by_cases h7 : v1 ≤ 7
    · have hi : vp_in v1 8 := lf_in h0 h7
      exact br_f h0 (br_t h7 ⟨hi, br_f h0 (br_t h7 ⟨hi, rfl, rfl⟩)⟩)
    · exact br_f h0 (br_f h7 (br_f h0 (br_f h7 ⟨rfl, rfl⟩)))
