/-! what is owed -/
def i_Rel (_ : Nat) (u : SX) (v : SY) : Prop := ∃ (h : Nat) (A : Nat → Int32), h < 16 ∧ u = (nI h, A, sc_T sc_C 256) ∧ v = (nI h, A, sc_T sc_C 256)
theorem sr_mk {k h : Nat} {A : Nat → Int32} (hh : h < 16) : i_Rel k (nI h, A, sc_T sc_C 256) (nI h, A, sc_T sc_C 256) := ⟨h, A, hh, rfl, rfl⟩
theorem sr_ix (x : Int32) {n : Nat} (hn : n < 2 ^ 31) : (x < 0 ∨ nI n ≤ x) ∨ ∃ j : Nat, j < n ∧ x = nI j := by
  rcases pk_ix x hn with a | a | a
  · exact Or.inl (Or.inl a)
  · exact Or.inl (Or.inr a)
  · exact Or.inr a
theorem i_up {k : Nat} {u : SX} {v : SY} (h : i_Rel k u v) : i_Rel (k + 3) u v := h
theorem i_vc0 : wpX_init (fun u => wpY_init (fun v => i_Rel 0 u v)) := sx_in (sy_in (sr_mk (h := 0) (by omega)))
theorem i_vc_write {k : Nat} {u : SX} {v : SY} (I : i_Rel k u v) (hk : k + 3 ≤ 1536) (v1 : Int32) (v2 : Int32) : wpX_write (fun r u' => wpY_write (fun r' v' => r' = r ∧ i_Rel (k + 3) u' v') v v1 v2) u v1 v2 := by
  obtain ⟨h, A, hh, rfl, rfl⟩ := I
  unfold wpX_write wpY_write
  dsimp only
  rcases sr_ix v1 (n := 16) (by omega) with z | ⟨w, hw, rfl⟩
  · exact sx_wf z (br_t rfl (sy_wf z (br_t rfl ⟨rfl, sr_mk hh⟩)))
  · refine sx_wt hw (br_f (by decide) ?_)
    rcases sr_ix v2 (n := 256) (by omega) with z | ⟨b, hb, rfl⟩
    · refine sx_bf z (br_t rfl (sy_wt hw (br_f (by decide) ?_)))
      by_cases y : v2 < 0
      · exact br_t y ⟨rfl, sr_mk hh⟩
      · exact br_f y (br_f (Int32.not_le.mpr (sc_gt (n := 255) (by omega) (z.resolve_left y))) ⟨rfl, sr_mk hh⟩)
    · have i1 : vp_in (nI w) 16 := vp_in_nI hw (by omega)
      have i2 : vp_in (nI b) 256 := vp_in_nI hb (by omega)
      exact sx_bt hb (br_f (by decide) ⟨i2, i1, nm_e ⟨i1, sy_wt hw (br_f (by decide) (br_f (nI_pos (by omega)) (br_t (nI_le (b := 255) (by omega) (by omega)) ⟨i2, i1, nm_e ⟨i1, rfl, sr_mk hh⟩⟩)))⟩⟩)
theorem i_vc_flip {k : Nat} {u : SX} {v : SY} (I : i_Rel k u v) (hk : k + 3 ≤ 1536) (v1 : Int32) (v2 : Int32) : wpX_flip (fun r u' => wpY_flip (fun r' v' => r' = r ∧ i_Rel (k + 3) u' v') v v1 v2) u v1 v2 := by
  obtain ⟨h, A, hh, rfl, rfl⟩ := I
  unfold wpX_flip wpY_flip
  dsimp only
  rcases sr_ix v1 (n := 16) (by omega) with z | ⟨w, hw, rfl⟩
  · exact sx_wf z (br_t rfl (sy_wf z (br_t rfl ⟨rfl, sr_mk hh⟩)))
  · refine sx_wt hw (br_f (by decide) ?_)
    rcases sr_ix v2 (n := 13) (by omega) with z | ⟨b, hb, rfl⟩
    · refine sx_if z (br_t rfl (sy_wt hw (br_f (by decide) ?_)))
      by_cases y : v2 < 0
      · exact br_t y ⟨rfl, sr_mk hh⟩
      · exact br_f y (br_f (Int32.not_le.mpr (sc_gt (n := 12) (by omega) (z.resolve_left y))) ⟨rfl, sr_mk hh⟩)
    · have i1 : vp_in (nI w) 16 := vp_in_nI hw (by omega)
      exact sx_it hb (br_f (by decide) ⟨i1, i1, nm_e ⟨i1, sy_wt hw (br_f (by decide) (br_f (nI_pos (by omega)) (br_t (nI_le (b := 12) (by omega) (by omega)) ⟨i1, i1, nm_e ⟨i1, rfl, sr_mk hh⟩⟩)))⟩⟩)
theorem i_vc_read {k : Nat} {u : SX} {v : SY} (I : i_Rel k u v) (hk : k + 3 ≤ 1536) (v1 : Int32) : wpX_read (fun r => wpY_read (fun r' => r' = r ∧ i_Rel (k + 3) u v) v v1) u v1 := by
  obtain ⟨h, A, hh, rfl, rfl⟩ := I
  unfold wpX_read
  dsimp only
  rcases sr_ix v1 (n := 16) (by omega) with z | ⟨w, hw, rfl⟩
  · exact sx_wf z (br_t rfl (sy_rf z ⟨rfl, sr_mk hh⟩))
  · refine sx_wt hw (br_f (by decide) ⟨vp_in_nI hw (by omega), ?_⟩)
    rw [nI_clamp (show w < 2 ^ 31 by omega)]
    exact sx_so (sy_re hw ⟨rfl, sr_mk hh⟩)
theorem i_vc_repair {k : Nat} {u : SX} {v : SY} (I : i_Rel k u v) (hk : k + 3 ≤ 1536) (v1 : Int32) : wpX_repair (fun r u' => wpY_repair (fun r' v' => r' = r ∧ i_Rel (k + 3) u' v') v v1) u v1 := by
  obtain ⟨h, A, hh, rfl, rfl⟩ := I
  unfold wpX_repair
  dsimp only
  rcases sr_ix v1 (n := 16) (by omega) with z | ⟨w, hw, rfl⟩
  · exact sx_wf z (br_t rfl (sy_rb z ⟨rfl, sr_mk hh⟩))
  · exact sx_wt hw (br_f (by decide) (sx_me hw (sy_rp hw ⟨rfl, sr_mk hh⟩)))
theorem i_vc_scrub {k : Nat} {u : SX} {v : SY} (I : i_Rel k u v) (hk : k + 3 ≤ 1536) (v1 : Int32) : wpX_scrub (fun r u' => wpY_scrub (fun r' v' => r' = r ∧ i_Rel (k + 3) u' v') v v1) u v1 := by
  obtain ⟨h, A, hh, rfl, rfl⟩ := I
  obtain ⟨r, hr, hx⟩ : ∃ r : Nat, r ≤ 32 ∧ ((v1 < 0 ∧ r = 0) ∨ (nI 33 ≤ v1 ∧ r = 32) ∨ (r < 33 ∧ v1 = nI r)) := by
    rcases pk_ix v1 (n := 33) (by omega) with a | a | ⟨j, hj, e⟩
    · exact ⟨0, by omega, Or.inl ⟨a, rfl⟩⟩
    · exact ⟨32, by omega, Or.inr (Or.inl ⟨a, rfl⟩)⟩
    · exact ⟨j, by omega, Or.inr (Or.inr ⟨hj, e⟩)⟩
  exact sx_sc hh hr hx (sy_sc hh hr hx ⟨rfl, sr_mk (sc_sh _ _ _ _ _ hh)⟩)
theorem i_vc_hand {k : Nat} {u : SX} {v : SY} (I : i_Rel k u v) (hk : k + 3 ≤ 1536) : wpX_hand (fun r => wpY_hand (fun r' => r' = r ∧ i_Rel (k + 3) u v) v) u := by
  obtain ⟨h, A, hh, rfl, rfl⟩ := I
  exact ⟨rfl, sr_mk hh⟩
theorem i_vc_broken {k : Nat} {u : SX} {v : SY} (I : i_Rel k u v) (hk : k + 3 ≤ 1536) : wpX_broken (fun r => wpY_broken (fun r' => r' = r ∧ i_Rel (k + 3) u v) v) u := by
  obtain ⟨h, A, hh, rfl, rfl⟩ := I
  exact sx_br (sy_br ⟨rfl, sr_mk hh⟩)
theorem i_vc_marred {k : Nat} {u : SX} {v : SY} (I : i_Rel k u v) (hk : k + 3 ≤ 1536) : wpX_marred (fun r => wpY_marred (fun r' => r' = r ∧ i_Rel (k + 3) u v) v) u := by
  obtain ⟨h, A, hh, rfl, rfl⟩ := I
  exact sx_ma (sy_ma ⟨rfl, sr_mk hh⟩)
theorem i_vc_raw {k : Nat} {u : SX} {v : SY} (I : i_Rel k u v) (hk : k + 3 ≤ 1536) (v1 : Int32) : wpX_raw (fun r => wpY_raw (fun r' => r' = r ∧ i_Rel (k + 3) u v) v v1) u v1 := by
  obtain ⟨h, A, hh, rfl, rfl⟩ := I
  unfold wpX_raw wpY_raw
  dsimp only
  rcases sr_ix v1 (n := 16) (by omega) with z | ⟨w, hw, rfl⟩
  · exact sx_wf z (br_t rfl (sy_wf z (br_t rfl ⟨rfl, sr_mk hh⟩)))
  · have i1 : vp_in (nI w) 16 := vp_in_nI hw (by omega)
    exact sx_wt hw (br_f (by decide) ⟨i1, sy_wt hw (br_f (by decide) ⟨i1, rfl, sr_mk hh⟩)⟩)
theorem i_vc_distance {k : Nat} {u : SX} {v : SY} (I : i_Rel k u v) (hk : k + 3 ≤ 1536) (v1 : Int32) (v2 : Int32) : wpX_distance (fun r => wpY_distance (fun r' => r' = r ∧ i_Rel (k + 3) u v) v v1 v2) u v1 v2 := by
  obtain ⟨h, A, hh, rfl, rfl⟩ := I
  unfold wpX_distance wpY_distance
  dsimp only
  rcases sr_ix v1 (n := 16) (by omega) with z | ⟨w, hw, rfl⟩
  · exact sx_wf z (br_t rfl (sy_wf z (br_t rfl ⟨rfl, sr_mk hh⟩)))
  · refine sx_wt hw (br_f (by decide) ?_)
    rcases sr_ix v2 (n := 256) (by omega) with z | ⟨b, hb, rfl⟩
    · refine sx_bf z (br_t rfl (sy_wt hw (br_f (by decide) ?_)))
      by_cases y : v2 < 0
      · exact br_t y ⟨rfl, sr_mk hh⟩
      · exact br_f y (br_f (Int32.not_le.mpr (sc_gt (n := 255) (by omega) (z.resolve_left y))) ⟨rfl, sr_mk hh⟩)
    · have i1 : vp_in (nI w) 16 := vp_in_nI hw (by omega)
      have i2 : vp_in (nI b) 256 := vp_in_nI hb (by omega)
      exact sx_bt hb (br_f (by decide) ⟨i1, i2, sx_co (sy_wt hw (br_f (by decide) (br_f (nI_pos (by omega)) (br_t (nI_le (b := 255) (by omega) (by omega)) ⟨i1, i2, sy_ap ⟨rfl, sr_mk hh⟩⟩))))⟩)
theorem i_vc_nearest {k : Nat} {u : SX} {v : SY} (I : i_Rel k u v) (hk : k + 3 ≤ 1536) (v1 : Int32) : wpX_nearest (fun r => wpY_nearest (fun r' => r' = r ∧ i_Rel (k + 3) u v) v v1) u v1 := by
  obtain ⟨h, A, hh, rfl, rfl⟩ := I
  rcases sr_ix v1 (n := 16) (by omega) with z | ⟨w, hw, rfl⟩
  · unfold wpX_nearest wpY_nearest
    dsimp only
    exact sx_wf z (br_t rfl (sy_wf z (br_t rfl ⟨rfl, sr_mk hh⟩)))
  · exact sx_ne hw (sy_ne hw ⟨rfl, sr_mk hh⟩)
theorem i_vc_mix {k : Nat} {u : SX} {v : SY} (I : i_Rel k u v) (hk : k + 3 ≤ 1536) (v1 : Int32) (v2 : Int32) : wpX_mix (fun r u' => wpY_mix (fun r' v' => r' = r ∧ i_Rel (k + 3) u' v') v v1 v2) u v1 v2 := by
  obtain ⟨h, A, hh, rfl, rfl⟩ := I
  unfold wpX_mix wpY_mix
  dsimp only
  rcases sr_ix v1 (n := 16) (by omega) with z | ⟨w, hw, rfl⟩
  · exact sx_wf z (br_t rfl (sy_wf z (br_t rfl ⟨rfl, sr_mk hh⟩)))
  · refine sx_wt hw (br_f (by decide) ?_)
    rcases sr_ix v2 (n := 16) (by omega) with z | ⟨x, hx, rfl⟩
    · exact sx_wf z (br_t rfl (sy_wt hw (br_f (by decide) (sy_wf z (br_t rfl ⟨rfl, sr_mk hh⟩)))))
    · have i1 : vp_in (nI w) 16 := vp_in_nI hw (by omega)
      have i2 : vp_in (nI x) 16 := vp_in_nI hx (by omega)
      refine sx_wt hx (br_f (by decide) ⟨i1, ?_⟩)
      rw [nI_clamp (show w < 2 ^ 31 by omega), nI_clamp (show x < 2 ^ 31 by omega)]
      refine sx_so ⟨i2, sx_so ?_⟩
      rcases sc_vr (sc_T sc_C 256) (A w) with y | ⟨p, hp, y⟩
      · refine br_t y (sy_wt hw (br_f (by decide) (sy_wt hx (br_f (by decide) (sy_re hw (sy_re hx ?_))))))
        rw [y]
        exact br_t (by decide) ⟨rfl, sr_mk hh⟩
      · rw [y]
        refine br_f (sc_n2 hp) ?_
        rcases sc_vr (sc_T sc_C 256) (A x) with y2 | ⟨q, hq, y2⟩
        · refine br_t y2 (sy_wt hw (br_f (by decide) (sy_wt hx (br_f (by decide) (sy_re hw (sy_re hx ?_))))))
          rw [y, y2]
          exact br_f (nI_pos (by omega)) (br_f (by decide) ⟨rfl, sr_mk hh⟩)
        · rw [y2]
          have hm : p ^^^ q < 256 := Nat.xor_lt_two_pow (n := 8) hp hq
          have i3 : vp_in (nI (p ^^^ q)) 256 := vp_in_nI hm (by omega)
          have e3 : (nI p ^^^ nI q) &&& 255 = nI (p ^^^ q) := by
            rw [nx_xor, pk_andN (by omega) 8 (by decide), Nat.mod_eq_of_lt hm]
          refine br_f (sc_n2 hq) (nm_r (nx_xor p q) ⟨i3, i2, nm_e (sy_wt hw (br_f (by decide) (sy_wt hx (br_f (by decide) (sy_re hw (sy_re hx ?_))))))⟩)
          rw [y, y2, e3]
          refine br_f (nI_pos (by omega)) (br_t (nI_pos' (by omega)) ⟨i3, i2, nm_e ⟨nx_xor p q, sr_mk hh⟩⟩)
