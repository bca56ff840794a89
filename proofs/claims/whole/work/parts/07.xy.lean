/-! counting loops of both sides, the nearest, mixing -/
def sc_bf (C A : Nat → Int32) : Nat → Bool := fun w => decide (sc_v C (A w) = -2)
def sc_mf (C A : Nat → Int32) : Nat → Bool := fun w => decide (¬ sc_v C (A w) = -2 ∧ ¬ A w = C (sc_v C (A w)).toNatClampNeg)
theorem sc_mf2 {C A : Nat → Int32} {w : Nat} (z : sc_v C (A w) = -2) : sc_mf C A w = false := decide_eq_false (fun h => h.1 z)
theorem sc_mfF {C A : Nat → Int32} {w v : Nat} (hv : v < 256) (z : sc_v C (A w) = nI v) (e : A w = C v) : sc_mf C A w = false := by
  refine decide_eq_false (fun h => h.2 ?_)
  rw [z, nI_clamp (by omega)]
  exact e
theorem sc_mfT {C A : Nat → Int32} {w v : Nat} (hv : v < 256) (z : sc_v C (A w) = nI v) (e : ¬ A w = C v) : sc_mf C A w = true := by
  refine decide_eq_true ⟨by rw [z]; exact sc_n2 hv, ?_⟩
  rw [z, nI_clamp (by omega)]
  exact e
theorem sx_brL {post : Int32 → Prop} {H : Int32} {A C : Nat → Int32} (h : post (nI (sc_c (sc_bf C A) 16))) : ∀ d i, i + d = 16 → wX_broken_4 post H A C (d + 1) (nI (sc_c (sc_bf C A) i)) (nI i) := by
  intro d
  induction d with
  | zero =>
    intro i e
    have e : i = 16 := by omega
    subst e
    exact pk_le 16 16 (fun _ => h) (fun z => absurd z (by omega))
  | succ d ih =>
    intro i e
    refine pk_le 16 i (fun z => absurd z (by omega)) (fun _ => ⟨vp_in_nI (by omega) (by omega), ?_⟩)
    have k := ih (i + 1) (by omega)
    rw [nI_clamp (show i < 2 ^ 31 by omega)]
    refine sx_so ?_
    by_cases z : sc_v C (A i) = -2
    · rw [sc_cT (show sc_bf C A i = true from decide_eq_true z)] at k
      exact br_t z (nm_r (nI_1 _) (nm_r (nI_1 i) k))
    · rw [sc_cF (show sc_bf C A i = false from decide_eq_false z)] at k
      exact br_f z (nm_r (nI_1 i) k)
theorem sx_br {post : Int32 → Prop} {H : Int32} {A C : Nat → Int32} (h : post (nI (sc_c (sc_bf C A) 16))) : wpX_broken post (H, A, C) := by
  unfold wpX_broken
  exact ⟨17, sx_brL h 16 0 rfl⟩
theorem sy_brL {post : Int32 → Prop} {H : Int32} {A C : Nat → Int32} (h : post (nI (sc_c (sc_bf C A) 16))) : ∀ d i, i + d = 16 → wY_broken_4 post H A C (d + 1) (nI (sc_c (sc_bf C A) i)) (nI i) := by
  intro d
  induction d with
  | zero =>
    intro i e
    have e : i = 16 := by omega
    subst e
    exact pk_le 16 16 (fun _ => h) (fun z => absurd z (by omega))
  | succ d ih =>
    intro i e
    refine pk_le 16 i (fun z => absurd z (by omega)) (fun _ => ?_)
    have k := ih (i + 1) (by omega)
    refine sy_re (by omega) ?_
    by_cases z : sc_v C (A i) = -2
    · rw [sc_cT (show sc_bf C A i = true from decide_eq_true z)] at k
      exact br_t z (nm_r (nI_1 _) (nm_r (nI_1 i) k))
    · rw [sc_cF (show sc_bf C A i = false from decide_eq_false z)] at k
      exact br_f z (nm_r (nI_1 i) k)
theorem sy_br {post : Int32 → Prop} {H : Int32} {A C : Nat → Int32} (h : post (nI (sc_c (sc_bf C A) 16))) : wpY_broken post (H, A, C) := by
  unfold wpY_broken
  exact ⟨17, sy_brL h 16 0 rfl⟩
theorem sx_maL {post : Int32 → Prop} {H : Int32} {A C : Nat → Int32} (h : post (nI (sc_c (sc_mf C A) 16))) : ∀ d i, i + d = 16 → wX_marred_4 post H A C (d + 1) (nI (sc_c (sc_mf C A) i)) (nI i) := by
  intro d
  induction d with
  | zero =>
    intro i e
    have e : i = 16 := by omega
    subst e
    exact pk_le 16 16 (fun _ => h) (fun z => absurd z (by omega))
  | succ d ih =>
    intro i e
    refine pk_le 16 i (fun z => absurd z (by omega)) (fun _ => ⟨vp_in_nI (by omega) (by omega), ?_⟩)
    have k := ih (i + 1) (by omega)
    rw [nI_clamp (show i < 2 ^ 31 by omega)]
    refine sx_so ?_
    rcases sc_vr C (A i) with z | ⟨v, hv, z⟩
    · rw [sc_cF (sc_mf2 z)] at k
      exact br_t z (nm_r (nI_1 i) k)
    · rw [z]
      refine br_f (sc_n2 hv) ⟨vp_in_nI (by omega) (by omega), vp_in_nI hv (by omega), ?_⟩
      rw [nI_clamp (show v < 2 ^ 31 by omega)]
      by_cases y : A i = C v
      · rw [sc_cF (sc_mfF hv z y)] at k
        exact br_t y (nm_r (nI_1 i) k)
      · rw [sc_cT (sc_mfT hv z y)] at k
        exact br_f y (nm_r (nI_1 _) (nm_r (nI_1 i) k))
theorem sx_ma {post : Int32 → Prop} {H : Int32} {A C : Nat → Int32} (h : post (nI (sc_c (sc_mf C A) 16))) : wpX_marred post (H, A, C) := by
  unfold wpX_marred
  exact ⟨17, sx_maL h 16 0 rfl⟩
theorem sy_maL {post : Int32 → Prop} {H : Int32} {A C : Nat → Int32} (h : post (nI (sc_c (sc_mf C A) 16))) : ∀ d i, i + d = 16 → wY_marred_4 post H A C (d + 1) (nI (sc_c (sc_mf C A) i)) (nI i) := by
  intro d
  induction d with
  | zero =>
    intro i e
    have e : i = 16 := by omega
    subst e
    exact pk_le 16 16 (fun _ => h) (fun z => absurd z (by omega))
  | succ d ih =>
    intro i e
    refine pk_le 16 i (fun z => absurd z (by omega)) (fun _ => ?_)
    have k := ih (i + 1) (by omega)
    refine sy_re (by omega) ?_
    rcases sc_vr C (A i) with z | ⟨v, hv, z⟩
    · rw [sc_cF (sc_mf2 z)] at k
      rw [z]
      exact br_t (by decide) (nm_r (nI_1 i) k)
    · rw [z]
      refine br_f (nI_pos (by omega)) ⟨vp_in_nI (by omega) (by omega), vp_in_nI hv (by omega), ?_⟩
      rw [nI_clamp (show v < 2 ^ 31 by omega), nI_clamp (show i < 2 ^ 31 by omega)]
      by_cases y : A i = C v
      · rw [sc_cF (sc_mfF hv z y)] at k
        exact br_t y (nm_r (nI_1 i) k)
      · rw [sc_cT (sc_mfT hv z y)] at k
        exact br_f y (nm_r (nI_1 _) (nm_r (nI_1 i) k))
theorem sy_ma {post : Int32 → Prop} {H : Int32} {A C : Nat → Int32} (h : post (nI (sc_c (sc_mf C A) 16))) : wpY_marred post (H, A, C) := by
  unfold wpY_marred
  exact ⟨17, sy_maL h 16 0 rfl⟩
/-- the distances of word x, byte by byte -/
def sc_df (C : Nat → Int32) (x : Int32) : Nat → Nat := fun v => sc_d x (C v)
theorem sx_neL {post : Int32 → Prop} {H : Int32} {A C : Nat → Int32} {w : Nat} (hw : w < 16) : ∀ d j l t, j + d = 256 → l ≤ 14 → post (nI (sc_n (sc_df C (A w)) d j (l, t)).1 * 1000 + nI (sc_n (sc_df C (A w)) d j (l, t)).2) → wX_nearest_17 post (nI w) H A C (d + 1) (nI l) (nI t) (nI j) := by
  intro d
  induction d with
  | zero =>
    intro j l t e hl h
    have e : j = 256 := by omega
    subst e
    exact pk_le 256 256 (fun _ => h) (fun z => absurd z (by omega))
  | succ d ih =>
    intro j l t e hl h
    refine pk_le 256 j (fun z => absurd z (by omega)) (fun _ => ⟨vp_in_nI hw (by omega), vp_in_nI (by omega) (by omega), ?_⟩)
    rw [nI_clamp (show j < 2 ^ 31 by omega), nI_clamp (show w < 2 ^ 31 by omega)]
    have hb := sc_dle (A w) (C j)
    rw [sc_ns] at h
    refine sx_co ?_
    rcases Nat.lt_trichotomy (sc_df C (A w) j) l with z | z | z
    · rw [sc_n1a z] at h
      exact pk_le l (sc_d (A w) (C j)) (fun y => absurd z (Nat.not_lt.mpr y)) (fun _ => pk_eq (sc_d (A w) (C j)) (sc_d (A w) (C j)) (fun _ => nm_r (nI_1 0) (nm_r (nI_1 j) (ih (j + 1) (sc_d (A w) (C j)) 1 (by omega) (by omega) h))) (fun y => absurd rfl y))
    · rw [z, sc_n1b] at h
      exact pk_le l (sc_d (A w) (C j)) (fun y => pk_eq (sc_d (A w) (C j)) l (fun _ => nm_r (nI_1 t) (nm_r (nI_1 j) (ih (j + 1) _ _ (by omega) (by omega) h))) (fun y => absurd z y)) (fun y => absurd z (Nat.ne_of_lt y))
    · rw [sc_n1c z] at h
      exact pk_le l (sc_d (A w) (C j)) (fun y => pk_eq (sc_d (A w) (C j)) l (fun y => absurd y.symm (Nat.ne_of_lt z)) (fun _ => nm_r (nI_1 j) (ih (j + 1) _ _ (by omega) (by omega) h))) (fun y => absurd z (Nat.lt_asymm y))
theorem sy_neL {post : Int32 → Prop} {H : Int32} {A C : Nat → Int32} {w : Nat} (hw : w < 16) : ∀ d j l t, j + d = 256 → l ≤ 14 → post (1000 * nI (sc_n (sc_df C (A w)) d j (l, t)).1 + nI (sc_n (sc_df C (A w)) d j (l, t)).2) → wY_nearest_18 post (nI w) H A C (d + 1) (nI l) (nI t) (nI j) := by
  intro d
  induction d with
  | zero =>
    intro j l t e hl h
    have e : j = 256 := by omega
    subst e
    exact pk_le 256 256 (fun _ => h) (fun z => absurd z (by omega))
  | succ d ih =>
    intro j l t e hl h
    refine pk_le 256 j (fun z => absurd z (by omega)) (fun _ => ⟨vp_in_nI hw (by omega), vp_in_nI (by omega) (by omega), ?_⟩)
    rw [nI_clamp (show j < 2 ^ 31 by omega), nI_clamp (show w < 2 ^ 31 by omega)]
    have hb := sc_dle (A w) (C j)
    rw [sc_ns] at h
    refine sy_ap ?_
    rcases Nat.lt_trichotomy (sc_df C (A w) j) l with z | z | z
    · rw [sc_n1a z] at h
      exact pk_le l (sc_d (A w) (C j)) (fun y => absurd z (Nat.not_lt.mpr y)) (fun _ => pk_eq (sc_d (A w) (C j)) (sc_d (A w) (C j)) (fun _ => nm_r (nI_1 0) (nm_r (nI_1 j) (ih (j + 1) (sc_d (A w) (C j)) 1 (by omega) (by omega) h))) (fun y => absurd rfl y))
    · rw [z, sc_n1b] at h
      exact pk_le l (sc_d (A w) (C j)) (fun y => pk_eq (sc_d (A w) (C j)) l (fun _ => nm_r (nI_1 t) (nm_r (nI_1 j) (ih (j + 1) _ _ (by omega) (by omega) h))) (fun y => absurd z y)) (fun y => absurd z (Nat.ne_of_lt y))
    · rw [sc_n1c z] at h
      exact pk_le l (sc_d (A w) (C j)) (fun y => pk_eq (sc_d (A w) (C j)) l (fun y => absurd y.symm (Nat.ne_of_lt z)) (fun _ => nm_r (nI_1 j) (ih (j + 1) _ _ (by omega) (by omega) h))) (fun y => absurd z (Nat.lt_asymm y))
theorem sx_ne {post : Int32 → Prop} {H : Int32} {A C : Nat → Int32} {w : Nat} (hw : w < 16) (h : post (nI (sc_n (sc_df C (A w)) 256 0 (13, 0)).1 * 1000 + nI (sc_n (sc_df C (A w)) 256 0 (13, 0)).2)) : wpX_nearest post (H, A, C) (nI w) := by
  unfold wpX_nearest
  dsimp only
  rw [← sc_nne (sc_df C (A w)) (sc_dle _ _) 255] at h
  exact sx_wt hw (br_f (by decide) ⟨257, sx_neL hw 256 0 14 0 rfl (by omega) h⟩)
theorem sy_ne {post : Int32 → Prop} {H : Int32} {A C : Nat → Int32} {w : Nat} (hw : w < 16) (h : post (nI (sc_n (sc_df C (A w)) 256 0 (13, 0)).1 * 1000 + nI (sc_n (sc_df C (A w)) 256 0 (13, 0)).2)) : wpY_nearest post (H, A, C) (nI w) := by
  unfold wpY_nearest
  dsimp only
  rw [Int32.mul_comm] at h
  exact sy_wt hw (br_f (by decide) ⟨257, sy_neL hw 256 0 13 0 rfl (by omega) h⟩)
