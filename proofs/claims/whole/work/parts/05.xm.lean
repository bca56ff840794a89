/-! the component's methods over its state (H, A, C) -/
theorem sx_soL {post : Int32 → Prop} {x H : Int32} {A C : Nat → Int32} : ∀ d j, j + d = 256 → post (sc_f (-2) (sc_vf C x) d j) → wX_soundByte_2 post x H A C (d + 1) (nI j) := by
  intro d
  induction d with
  | zero =>
    intro j e h
    have e : j = 256 := by omega
    subst e
    exact pk_le 256 256 (fun _ => h) (fun z => absurd z (by omega))
  | succ d ih =>
    intro j e h
    refine pk_le 256 j (fun z => absurd z (by omega)) (fun _ => ⟨vp_in_nI (by omega) (by omega), ?_⟩)
    rw [nI_clamp (show j < 2 ^ 31 by omega)]
    have hb := sc_dle x (C j)
    refine sx_co (pk_lt 1 (sc_d x (C j)) (fun z => ?_) (fun z => ?_))
    · rw [sc_ff (sc_vff z)] at h
      exact nm_r (nI_1 j) (ih (j + 1) (by omega) h)
    · rw [sc_ft (sc_vft z)] at h
      exact h
theorem sx_so {post : Int32 → Prop} {x H : Int32} {A C : Nat → Int32} (h : post (sc_v C x)) : wpX_soundByte post (H, A, C) x := by
  unfold wpX_soundByte
  exact ⟨257, sx_soL 256 0 rfl h⟩
theorem sx_me {post : Int32 → SX → Prop} {H : Int32} {A C : Nat → Int32} {w : Nat} (hw : w < 16) (h : post (sc_m C A w).1 (H, (sc_m C A w).2, C)) : wpX_mend post (H, A, C) (nI w) := by
  unfold wpX_mend
  dsimp only
  refine ⟨vp_in_nI hw (by omega), ?_⟩
  rw [nI_clamp (show w < 2 ^ 31 by omega)]
  refine sx_so ?_
  rcases sc_vr C (A w) with z | ⟨v, hv, z⟩
  · rw [sc_m2 z] at h
    rw [z]
    exact br_t rfl h
  · rw [sc_mv hv z] at h
    rw [z]
    refine br_f (sc_n2 hv) ⟨vp_in_nI hw (by omega), vp_in_nI hv (by omega), nm_e ⟨vp_in_nI hv (by omega), vp_in_nI hw (by omega), nm_e ?_⟩⟩
    rw [nI_clamp (show v < 2 ^ 31 by omega)]
    exact sx_lo h
theorem sx_ib {post : Int32 → Prop} {x : Int32} (h1 : sc_ib x = true → post 1) (h0 : sc_ib x = false → post 0) : wpX_isBit post x := by
  by_cases a : x < 0
  · exact sx_if (Or.inl a) (h0 (decide_eq_false (fun z => absurd a (Int32.not_lt.mpr z.1))))
  · by_cases b : nI 13 ≤ x
    · exact sx_if (Or.inr b) (h0 (decide_eq_false (fun z => absurd z.2 (Int32.not_lt.mpr b))))
    · obtain ⟨j, hj, rfl⟩ := nI_of a
      rw [nI_leI (by omega) hj] at b
      exact sx_it (by omega) (h1 (decide_eq_true ⟨nI_pos' hj, nI_lt (b := 13) (by omega) (by decide)⟩))
theorem sx_scL {post : Int32 → SX → Prop} {C : Nat → Int32} {R : Nat} (hR : R ≤ 32) : ∀ d t h A i, h < 16 → i + d = R → post (nI (sc_s C d t h A).1) (nI (sc_s C d t h A).2.1, (sc_s C d t h A).2.2, C) → wX_scrub_10 post (nI R) (d + 1) (nI t) (nI i) (nI h) A C := by
  intro d
  induction d with
  | zero =>
    intro t h A i hh e p
    have e : i = R := by omega
    subst e
    exact pk_le i i (fun _ => p) (fun z => absurd z (by omega))
  | succ d ih =>
    intro t h A i hh e p
    rw [sc_ss] at p
    refine pk_le R i (fun z => absurd z (by omega)) (fun _ => ?_)
    refine sx_me hh ?_
    have q : (nI h + 1) - (nI h + 1) / 16 * 16 = nI ((h + 1) % 16) := by
      rw [nI_1]
      exact pk_rem (d := 16) (by omega) (by omega) (by omega)
    have k := ih _ _ _ (i + 1) (Nat.mod_lt _ (by omega)) (by omega) p
    have j : ∀ y : Nat, wX_scrub_10 post (nI R) (d + 1) (nI y) (nI (i + 1)) (nI ((h + 1) % 16)) (sc_m C A h).2 C → wX_scrub_37 post (wX_scrub_10 post (nI R) (d + 1)) (nI R) (nI y) (nI i) (nI h) (sc_m C A h).2 C := fun y z => ⟨by decide, nm_r q (nm_r (nI_1 i) z)⟩
    refine sx_ib (fun z => ?_) (fun z => ?_)
    · rw [z] at k
      exact br_f (by decide) (nm_r (nI_1 t) (j (t + 1) k))
    · rw [z] at k
      exact br_t rfl (j t k)
theorem sx_sc {post : Int32 → SX → Prop} {C A : Nat → Int32} {x : Int32} {r h : Nat} (hh : h < 16) (hr : r ≤ 32) (hx : (x < 0 ∧ r = 0) ∨ (nI 33 ≤ x ∧ r = 32) ∨ (r < 33 ∧ x = nI r)) (p : post (nI (sc_s C r 0 h A).1) (nI (sc_s C r 0 h A).2.1, (sc_s C r 0 h A).2.2, C)) : wpX_scrub post (nI h, A, C) x := by
  unfold wpX_scrub
  exact sx_cl hx ⟨r + 1, sx_scL hr r 0 h A 0 hh (by omega) p⟩
theorem sx_inW {post : SX → Prop} {H : Int32} {C : Nat → Int32} (h : post (H, sc_T (fun _ => C 0) 16, C)) : ∀ d i, i + d = 16 → wX_init_53 post H (d + 1) (nI i) (sc_T (fun _ => C 0) i) C := by
  intro d
  induction d with
  | zero =>
    intro i e
    have e : i = 16 := by omega
    subst e
    exact pk_le 16 16 (fun _ => h) (fun z => absurd z (by omega))
  | succ d ih =>
    intro i e
    refine pk_le 16 i (fun z => absurd z (by omega)) (fun _ => ⟨vp_in_nI (by omega) (by omega), ?_⟩)
    rw [nI_clamp (show i < 2 ^ 31 by omega)]
    exact nm_r (sc_Ts (fun _ => C 0) i) (nm_r (nI_1 i) (ih (i + 1) (by omega)))
theorem sx_inC {post : SX → Prop} {H : Int32} (h : post (H, sc_T (fun _ => sc_T sc_C 256 0) 16, sc_T sc_C 256)) : ∀ d i, i + d = 256 → wX_init_28 post H (d + 1) (nI i) (fun _ => 0) (sc_T sc_C i) := by
  intro d
  induction d with
  | zero =>
    intro i e
    have e : i = 256 := by omega
    subst e
    refine pk_le 256 256 (fun _ => ⟨17, ?_⟩) (fun z => absurd z (by omega))
    have k := sx_inW h 16 0 rfl
    rw [sc_T0] at k
    exact k
  | succ d ih =>
    intro i e
    refine pk_le 256 i (fun z => absurd z (by omega)) (fun _ => ?_)
    refine sx_en ⟨vp_in_nI (by omega) (by omega), ?_⟩
    rw [nI_clamp (show i < 2 ^ 31 by omega)]
    exact nm_r (sc_Ts sc_C i) (nm_r (nI_1 i) (ih (i + 1) (by omega)))
theorem sx_in {post : SX → Prop} (h : post (0, sc_T (fun _ => sc_T sc_C 256 0) 16, sc_T sc_C 256)) : wpX_init post := by
  unfold wpX_init
  have k := sx_inC h 256 0 rfl
  rw [sc_T0] at k
  exact ⟨257, k⟩
