/-! what is owed -/
def i_Rel (_ : Nat) (u : SX) (v : SY) : Prop := ∃ (h : Nat) (A : Nat → Int32), h < 16 ∧ u = (nI h, A, sc_T sc_C 256) ∧ v = (nI h, A, sc_T sc_C 256)
theorem sr_mk {k h : Nat} {A : Nat → Int32} (hh : h < 16) : i_Rel k (nI h, A, sc_T sc_C 256) (nI h, A, sc_T sc_C 256) := ⟨h, A, hh, rfl, rfl⟩
theorem i_up {k : Nat} {u : SX} {v : SY} (h : i_Rel k u v) : i_Rel (k + 3) u v := h
theorem i_vc_write {k : Nat} {u : SX} {v : SY} (I : i_Rel k u v) (hk : k + 3 ≤ 1536) (v1 : Int32) (v2 : Int32) : wpX_write (fun r u' => wpY_write (fun r' v' => r' = r ∧ i_Rel (k + 3) u' v') v v1 v2) u v1 v2 := by
  obtain ⟨h, A, hh, rfl, rfl⟩ := I
  unfold wpX_write wpY_write
  dsimp only
  rcases (or_assoc.mpr (pk_ix v1 (n := 16) (by omega))) with z | ⟨w, hw, rfl⟩
  · exact sx_wf z (br_t rfl (sy_wf z (br_t rfl ⟨rfl, sr_mk hh⟩)))
  · refine sx_wt hw (br_f (by decide) ?_)
    rcases (or_assoc.mpr (pk_ix v2 (n := 256) (by omega))) with z | ⟨b, hb, rfl⟩
    · refine sx_bf z (br_t rfl (sy_wt hw (br_f (by decide) ?_)))
      by_cases y : v2 < 0
      · exact br_t y ⟨rfl, sr_mk hh⟩
      · exact br_f y (br_f (Int32.not_le.mpr (sc_gt (n := 255) (by omega) (z.resolve_left y))) ⟨rfl, sr_mk hh⟩)
    · sorry
