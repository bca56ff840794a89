/-! the reference's methods over its state (H, A, C) -/
theorem sy_apL {post : Int32 → Prop} {x y H : Int32} {A C : Nat → Int32} (h : post (nI (sc_d x y))) : ∀ d i, i + d = 13 → wY_apart_5 post x y H A C (d + 1) (nI (sc_c (bt (x ^^^ y)) i)) (nI i) := by
  intro d
  induction d with
  | zero =>
    intro i e
    have e : i = 13 := by omega
    subst e
    exact pk_lt 12 13 (fun _ => h) (fun z => absurd z (by omega))
  | succ d ih =>
    intro i e
    refine pk_lt 12 i (fun z => absurd z (by omega)) (fun _ => ?_)
    have k := ih (i + 1) (by omega)
    refine sy_bi (by omega) (sy_bi (by omega) ?_)
    cases z : (bt x i ^^ bt y i)
    · rw [sc_cF ((b_xor x y i).trans z)] at k
      exact br_t ((sc_b2 _ _).mpr z) (nm_r (nI_1 i) k)
    · rw [sc_cT ((b_xor x y i).trans z)] at k
      refine br_f (fun e => ?_) (nm_r (nI_1 _) (nm_r (nI_1 i) k))
      rw [(sc_b2 _ _).mp e] at z
      exact absurd z (by decide)
theorem sy_ap {post : Int32 → Prop} {x y H : Int32} {A C : Nat → Int32} (h : post (nI (sc_d x y))) : wpY_apart post (H, A, C) x y := by
  unfold wpY_apart
  exact ⟨14, sy_apL h 13 0 rfl⟩
theorem sy_reL {post : Int32 → Prop} {H : Int32} {A C : Nat → Int32} {w : Nat} (hw : w < 16) : ∀ d j, j + d = 256 → post (sc_f (-2) (sc_vf C (A w)) d j) → wY_read_13 post (nI w) H A C (d + 1) (nI j) := by
  intro d
  induction d with
  | zero =>
    intro j e h
    have e : j = 256 := by omega
    subst e
    exact pk_le 256 256 (fun _ => h) (fun z => absurd z (by omega))
  | succ d ih =>
    intro j e h
    refine pk_le 256 j (fun z => absurd z (by omega)) (fun _ => ⟨vp_in_nI hw (by omega), vp_in_nI (by omega) (by omega), ?_⟩)
    rw [nI_clamp (show j < 2 ^ 31 by omega), nI_clamp (show w < 2 ^ 31 by omega)]
    have hb := sc_dle (A w) (C j)
    refine sy_ap (pk_lt 1 (sc_d (A w) (C j)) (fun z => ?_) (fun z => ?_))
    · rw [sc_ff (sc_vff z)] at h
      exact nm_r (nI_1 j) (ih (j + 1) (by omega) h)
    · rw [sc_ft (sc_vft z)] at h
      exact h
theorem sy_re {post : Int32 → Prop} {H : Int32} {A C : Nat → Int32} {w : Nat} (hw : w < 16) (h : post (sc_v C (A w))) : wpY_read post (H, A, C) (nI w) := by
  unfold wpY_read
  dsimp only
  refine sy_wt hw (br_f (by decide) ⟨257, sy_reL hw 256 0 rfl h⟩)
theorem sy_rf {post : Int32 → Prop} {H x : Int32} {A C : Nat → Int32} (hx : x < 0 ∨ nI 16 ≤ x) (h : post (-1)) : wpY_read post (H, A, C) x := by
  unfold wpY_read
  dsimp only
  exact sy_wf hx (br_t rfl h)
theorem sy_rpL {post : Int32 → SY → Prop} {x H : Int32} {A C : Nat → Int32} {w : Nat} (hw : w < 16) : ∀ d i, i + d = 13 → post (sc_f 13 (bt (x ^^^ A w)) d i) (H, A, C) → wY_repair_40 post (nI w) x H A C (d + 1) (nI i) := by
  intro d
  induction d with
  | zero =>
    intro i e h
    have e : i = 13 := by omega
    subst e
    exact pk_lt 12 13 (fun _ => h) (fun z => absurd z (by omega))
  | succ d ih =>
    intro i e h
    refine pk_lt 12 i (fun z => absurd z (by omega)) (fun _ => ?_)
    refine sy_bi (by omega) ⟨vp_in_nI hw (by omega), ?_⟩
    rw [nI_clamp (show w < 2 ^ 31 by omega)]
    refine sy_bi (by omega) ?_
    cases z : (bt x i ^^ bt (A w) i)
    · rw [sc_ff ((b_xor x (A w) i).trans z)] at h
      exact br_t ((sc_b2 _ _).mpr z) (nm_r (nI_1 i) (ih (i + 1) (by omega) h))
    · rw [sc_ft ((b_xor x (A w) i).trans z)] at h
      refine br_f (fun e => ?_) h
      rw [(sc_b2 _ _).mp e] at z
      exact absurd z (by decide)
theorem sy_rp {post : Int32 → SY → Prop} {H : Int32} {A C : Nat → Int32} {w : Nat} (hw : w < 16) (h : post (sc_m C A w).1 (H, (sc_m C A w).2, C)) : wpY_repair post (H, A, C) (nI w) := by
  unfold wpY_repair
  dsimp only
  refine sy_re hw ?_
  rcases sc_vr C (A w) with z | ⟨v, hv, z⟩
  · rw [sc_m2 z] at h
    rw [z]
    exact br_f (by decide) h
  · rw [sc_mv hv z] at h
    rw [z]
    refine br_t (nI_pos' (by omega)) ⟨vp_in_nI hw (by omega), nm_e ⟨vp_in_nI hv (by omega), vp_in_nI hw (by omega), nm_e ⟨14, ?_⟩⟩⟩
    rw [nI_clamp (show v < 2 ^ 31 by omega), nI_clamp (show w < 2 ^ 31 by omega)]
    refine sy_rpL hw 13 0 rfl ?_
    rw [pk_us]
    exact h
