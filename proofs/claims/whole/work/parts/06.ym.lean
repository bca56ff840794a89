/-! the reference's methods over its state (H, A, C) -/
theorem sy_apL {post : Int32 → Prop} {x y H : Int32} {A C : Nat → Int32} (h : post (nI (sc_d x y))) : ∀ d i, i + d = 13 → wY_apart_5 post x y H A C (d + 1) (nI (sc_c (bt (x ^^^ y)) i)) (nI i) := by
  intro d
  induction d with
  | zero =>
    intro i e
    have e : i = 13 := by omega
    subst e
    exact pk_lt 12 13 (fun _ => h) (fun z => absurd z (by omega))
  | succ d ih =>
    intro i e
    refine pk_lt 12 i (fun z => absurd z (by omega)) (fun _ => ?_)
    have k := ih (i + 1) (by omega)
    refine sy_bi (by omega) (sy_bi (by omega) ?_)
    cases z : (bt x i ^^ bt y i)
    · rw [sc_cF ((b_xor x y i).trans z)] at k
      exact br_t ((sc_b2 _ _).mpr z) (nm_r (nI_1 i) k)
    · rw [sc_cT ((b_xor x y i).trans z)] at k
      refine br_f (fun e => ?_) (nm_r (nI_1 _) (nm_r (nI_1 i) k))
      rw [(sc_b2 _ _).mp e] at z
      exact absurd z (by decide)
theorem sy_ap {post : Int32 → Prop} {x y H : Int32} {A C : Nat → Int32} (h : post (nI (sc_d x y))) : wpY_apart post (H, A, C) x y := by
  unfold wpY_apart
  exact ⟨14, sy_apL h 13 0 rfl⟩
theorem sy_reL {post : Int32 → Prop} {H : Int32} {A C : Nat → Int32} {w : Nat} (hw : w < 16) : ∀ d j, j + d = 256 → post (sc_f (-2) (sc_vf C (A w)) d j) → wY_read_12 post (nI w) H A C (d + 1) (nI j) := by
  intro d
  induction d with
  | zero =>
    intro j e h
    have e : j = 256 := by omega
    subst e
    exact pk_le 256 256 (fun _ => h) (fun z => absurd z (by omega))
  | succ d ih =>
    intro j e h
    refine pk_le 256 j (fun z => absurd z (by omega)) (fun _ => ⟨vp_in_nI hw (by omega), vp_in_nI (by omega) (by omega), ?_⟩)
    rw [nI_clamp (show j < 2 ^ 31 by omega), nI_clamp (show w < 2 ^ 31 by omega)]
    have hb := sc_dle (A w) (C j)
    refine sy_ap (pk_lt 1 (sc_d (A w) (C j)) (fun z => ?_) (fun z => ?_))
    · rw [sc_ff (sc_vff z)] at h
      exact nm_r (nI_1 j) (ih (j + 1) (by omega) h)
    · rw [sc_ft (sc_vft z)] at h
      exact h
theorem sy_re {post : Int32 → Prop} {H : Int32} {A C : Nat → Int32} {w : Nat} (hw : w < 16) (h : post (sc_v C (A w))) : wpY_read post (H, A, C) (nI w) := by
  unfold wpY_read
  dsimp only
  refine sy_wt hw (br_f (by decide) ⟨257, sy_reL hw 256 0 rfl h⟩)
theorem sy_rf {post : Int32 → Prop} {H x : Int32} {A C : Nat → Int32} (hx : x < 0 ∨ nI 16 ≤ x) (h : post (-1)) : wpY_read post (H, A, C) x := by
  unfold wpY_read
  dsimp only
  exact sy_wf hx (br_t rfl h)
theorem sy_rpL {post : Int32 → SY → Prop} {x H : Int32} {A C : Nat → Int32} {w : Nat} (hw : w < 16) : ∀ d i, i + d = 13 → post (sc_f 13 (bt (x ^^^ A w)) d i) (H, A, C) → wY_repair_34 post (nI w) x H A C (d + 1) (nI i) := by
  intro d
  induction d with
  | zero =>
    intro i e h
    have e : i = 13 := by omega
    subst e
    exact pk_lt 12 13 (fun _ => h) (fun z => absurd z (by omega))
  | succ d ih =>
    intro i e h
    refine pk_lt 12 i (fun z => absurd z (by omega)) (fun _ => ?_)
    refine sy_bi (by omega) ⟨vp_in_nI hw (by omega), ?_⟩
    rw [nI_clamp (show w < 2 ^ 31 by omega)]
    refine sy_bi (by omega) ?_
    cases z : (bt x i ^^ bt (A w) i)
    · rw [sc_ff ((b_xor x (A w) i).trans z)] at h
      exact br_t ((sc_b2 _ _).mpr z) (nm_r (nI_1 i) (ih (i + 1) (by omega) h))
    · rw [sc_ft ((b_xor x (A w) i).trans z)] at h
      refine br_f (fun e => ?_) h
      rw [(sc_b2 _ _).mp e] at z
      exact absurd z (by decide)
theorem sy_rp {post : Int32 → SY → Prop} {H : Int32} {A C : Nat → Int32} {w : Nat} (hw : w < 16) (h : post (sc_m C A w).1 (H, (sc_m C A w).2, C)) : wpY_repair post (H, A, C) (nI w) := by
  unfold wpY_repair
  dsimp only
  refine sy_re hw ?_
  rcases sc_vr C (A w) with z | ⟨v, hv, z⟩
  · rw [sc_m2 z] at h
    rw [z]
    exact br_f (by decide) h
  · rw [sc_mv hv z] at h
    rw [z]
    refine br_t (nI_pos' (by omega)) ⟨vp_in_nI hw (by omega), nm_e ⟨vp_in_nI hv (by omega), vp_in_nI hw (by omega), nm_e ⟨14, ?_⟩⟩⟩
    rw [nI_clamp (show v < 2 ^ 31 by omega), nI_clamp (show w < 2 ^ 31 by omega)]
    refine sy_rpL hw 13 0 rfl ?_
    rw [pk_us]
    exact h
theorem sy_rb {post : Int32 → SY → Prop} {H x : Int32} {A C : Nat → Int32} (hx : x < 0 ∨ nI 16 ≤ x) (h : post (-1) (H, A, C)) : wpY_repair post (H, A, C) x := by
  unfold wpY_repair
  dsimp only
  exact sy_rf hx (br_f (by decide) h)
theorem sy_scL {post : Int32 → SY → Prop} {C : Nat → Int32} {R : Nat} (hR : R ≤ 32) : ∀ d t h A i, h < 16 → i + d = R → post (nI (sc_s C d t h A).1) (nI (sc_s C d t h A).2.1, (sc_s C d t h A).2.2, C) → wY_scrub_26 post (nI R) (d + 1) (nI t) (nI i) (nI h) A C := by
  intro d
  induction d with
  | zero =>
    intro t h A i hh e p
    have e : i = R := by omega
    subst e
    exact pk_le i i (fun _ => p) (fun z => absurd z (by omega))
  | succ d ih =>
    intro t h A i hh e p
    rw [sc_ss] at p
    refine pk_le R i (fun z => absurd z (by omega)) (fun _ => ?_)
    refine sy_rp hh ?_
    have q : (nI h + 1) - (nI h + 1) / 16 * 16 = nI ((h + 1) % 16) := by
      rw [nI_1]
      exact pk_rem (d := 16) (by omega) (by omega) (by omega)
    have k := ih _ _ _ (i + 1) (Nat.mod_lt _ (by omega)) (by omega) p
    have j : ∀ y : Nat, wY_scrub_26 post (nI R) (d + 1) (nI y) (nI (i + 1)) (nI ((h + 1) % 16)) (sc_m C A h).2 C → wY_scrub_57 post (wY_scrub_26 post (nI R) (d + 1)) (nI R) (nI y) (nI i) (nI h) (sc_m C A h).2 C := fun y z => ⟨by decide, nm_r q (nm_r (nI_1 i) z)⟩
    by_cases a : (sc_m C A h).1 < 0
    · rw [show sc_ib (sc_m C A h).1 = false from decide_eq_false (fun z => absurd a (Int32.not_lt.mpr z.1))] at k
      exact br_t a (j t k)
    · by_cases b : 12 < (sc_m C A h).1
      · rw [show sc_ib (sc_m C A h).1 = false from decide_eq_false (fun z => absurd b (Int32.not_lt.mpr ((sc_12 _).mpr z.2)))] at k
        exact br_f a (br_t b (j t k))
      · rw [show sc_ib (sc_m C A h).1 = true from decide_eq_true ⟨Int32.not_lt.mp a, (sc_12 _).mp (Int32.not_lt.mp b)⟩] at k
        exact br_f a (br_f b (nm_r (nI_1 t) (j (t + 1) k)))
theorem sy_sc {post : Int32 → SY → Prop} {C A : Nat → Int32} {x : Int32} {r h : Nat} (hh : h < 16) (hr : r ≤ 32) (hx : (x < 0 ∧ r = 0) ∨ (nI 33 ≤ x ∧ r = 32) ∨ (r < 33 ∧ x = nI r)) (p : post (nI (sc_s C r 0 h A).1) (nI (sc_s C r 0 h A).2.1, (sc_s C r 0 h A).2.2, C)) : wpY_scrub post (nI h, A, C) x := by
  unfold wpY_scrub
  have k := sy_scL hr r 0 h A 0 hh (by omega) p
  rcases hx with ⟨a, rfl⟩ | ⟨a, rfl⟩ | ⟨a, rfl⟩
  · exact br_f (Int32.not_le.mpr a) ⟨_, k⟩
  · exact br_t (Int32.le_trans (nI_pos' (n := 33) (by omega)) a) (br_f (Int32.not_le.mpr (sc_gt (n := 32) (by omega) a)) ⟨_, k⟩)
  · exact br_t (nI_pos' (by omega)) (br_t (nI_le (b := 32) (by omega) (by omega)) ⟨_, k⟩)
theorem sy_inW {post : SY → Prop} {H : Int32} {C : Nat → Int32} (h : post (H, sc_T (fun _ => C 0) 16, C)) : ∀ d i, i + d = 16 → wY_init_54 post H (d + 1) (nI i) (sc_T (fun _ => C 0) i) C := by
  intro d
  induction d with
  | zero =>
    intro i e
    have e : i = 16 := by omega
    subst e
    exact pk_le 16 16 (fun _ => h) (fun z => absurd z (by omega))
  | succ d ih =>
    intro i e
    refine pk_le 16 i (fun z => absurd z (by omega)) (fun _ => ⟨vp_in_nI (by omega) (by omega), ?_⟩)
    rw [nI_clamp (show i < 2 ^ 31 by omega)]
    exact nm_r (sc_Ts (fun _ => C 0) i) (nm_r (nI_1 i) (ih (i + 1) (by omega)))
theorem sy_inC {post : SY → Prop} {H : Int32} (h : post (H, sc_T (fun _ => sc_T sc_C 256 0) 16, sc_T sc_C 256)) : ∀ d i, i + d = 256 → wY_init_28 post H (d + 1) (nI i) (fun _ => 0) (sc_T sc_C i) := by
  intro d
  induction d with
  | zero =>
    intro i e
    have e : i = 256 := by omega
    subst e
    refine pk_le 256 256 (fun _ => ⟨17, ?_⟩) (fun z => absurd z (by omega))
    have k := sy_inW h 16 0 rfl
    rw [sc_T0] at k
    exact k
  | succ d ih =>
    intro i e
    refine pk_le 256 i (fun z => absurd z (by omega)) (fun _ => ?_)
    refine sy_co (by omega) ⟨vp_in_nI (by omega) (by omega), ?_⟩
    rw [nI_clamp (show i < 2 ^ 31 by omega)]
    exact nm_r (sc_Ts sc_C i) (nm_r (nI_1 i) (ih (i + 1) (by omega)))
theorem sy_in {post : SY → Prop} (h : post (0, sc_T (fun _ => sc_T sc_C 256 0) 16, sc_T sc_C 256)) : wpY_init post := by
  unfold wpY_init
  have k := sy_inC h 256 0 rfl
  rw [sc_T0] at k
  exact ⟨257, k⟩
