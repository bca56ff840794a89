/-! the component's own static methods -/
theorem sx_wt {post : Int32 → Prop} {w : Nat} (h : w < 16) (p : post 1) : wpX_isWord post (nI w) := by
  unfold wpX_isWord
  exact br_f (nI_pos (by omega)) (br_f (nI_ge (b := 16) h (by decide)) p)
theorem sx_wf {post : Int32 → Prop} {x : Int32} (h : x < 0 ∨ nI 16 ≤ x) (p : post 0) : wpX_isWord post x := by
  unfold wpX_isWord
  by_cases z : x < 0
  · exact br_t z p
  · exact br_f z (br_t (h.resolve_left z) p)
theorem sx_bt {post : Int32 → Prop} {w : Nat} (h : w < 256) (p : post 1) : wpX_isByte post (nI w) := by
  unfold wpX_isByte
  exact br_f (nI_pos (by omega)) (br_f (nI_ge (b := 256) h (by decide)) p)
theorem sx_bf {post : Int32 → Prop} {x : Int32} (h : x < 0 ∨ nI 256 ≤ x) (p : post 0) : wpX_isByte post x := by
  unfold wpX_isByte
  by_cases z : x < 0
  · exact br_t z p
  · exact br_f z (br_t (h.resolve_left z) p)
theorem sx_it {post : Int32 → Prop} {w : Nat} (h : w < 13) (p : post 1) : wpX_isBit post (nI w) := by
  unfold wpX_isBit
  exact br_f (nI_pos (by omega)) (br_f (nI_ge (b := 13) h (by decide)) p)
theorem sx_if {post : Int32 → Prop} {x : Int32} (h : x < 0 ∨ nI 13 ≤ x) (p : post 0) : wpX_isBit post x := by
  unfold wpX_isBit
  by_cases z : x < 0
  · exact br_t z p
  · exact br_f z (br_t (h.resolve_left z) p)
theorem sx_coL {post : Int32 → Prop} {w : Int32} (h : post (nI (sc_c (bt w) 13))) : ∀ d i, i + d = 13 → wX_countOnes_4 post w (d + 1) (nI (sc_c (bt w) i)) (nI i) := by
  intro d
  induction d with
  | zero =>
    intro i e
    have e : i = 13 := by omega
    subst e
    exact pk_le 13 13 (fun _ => h) (fun z => absurd z (by omega))
  | succ d ih =>
    intro i e
    refine pk_le 13 i (fun z => absurd z (by omega)) (fun _ => ?_)
    refine nm_r (e' := nI (sc_c (bt w) (i + 1))) ?_ (nm_r (nI_1 i) (ih (i + 1) (by omega)))
    rw [sc_bit w i (by omega), nI_add, sc_cs]
theorem sx_co {post : Int32 → Prop} {w : Int32} (h : post (nI (sc_c (bt w) 13))) : wpX_countOnes post w := by
  unfold wpX_countOnes
  exact ⟨14, sx_coL h 13 0 rfl⟩
theorem sx_loL {post : Int32 → Prop} {w : Int32} : ∀ d i, i + d = 13 → post (sc_f 13 (bt w) d i) → wX_lowestOne_2 post w (d + 1) (nI i) := by
  intro d
  induction d with
  | zero =>
    intro i e h
    have e : i = 13 := by omega
    subst e
    exact pk_le 13 13 (fun _ => h) (fun z => absurd z (by omega))
  | succ d ih =>
    intro i e h
    refine pk_le 13 i (fun z => absurd z (by omega)) (fun _ => ?_)
    cases hb : bt w i
    · rw [sc_ff hb] at h
      refine br_f ?_ (nm_r (nI_1 i) (ih (i + 1) (by omega) h))
      rw [sc_bit w i (by omega), hb]
      decide
    · rw [sc_ft hb] at h
      refine br_t ?_ h
      rw [sc_bit w i (by omega), hb]
      rfl
theorem sx_lo {post : Int32 → Prop} {w : Int32} (h : post (sc_f 13 (bt w) 13 0)) : wpX_lowestOne post w := by
  unfold wpX_lowestOne
  exact ⟨14, sx_loL 13 0 rfl h⟩
theorem sc_oF {w : Int32} {c i : Nat} (h : i &&& c = 0) : sc_o w c i = false := by
  unfold sc_o
  rw [h]
  rfl
theorem sc_oT {w : Int32} {c i : Nat} (h : ¬ i &&& c = 0) : sc_o w c i = bt w i := by
  unfold sc_o
  rw [decide_eq_true h, Bool.true_and]
theorem sc_g1 (w : Int32) (c : Nat) : sc_c (sc_o w c) 1 = 0 := sc_cF (n := 0) (sc_oF (Nat.zero_and c))
theorem sx_ogL {post : Int32 → Prop} {w : Int32} {c : Nat} (hc : c < 2 ^ 31) (h1 : sc_g w c % 2 = 1 → post 1) (h0 : sc_g w c % 2 = 0 → post 0) : ∀ d i, i + d = 13 → wX_oddGroup_4 post w (nI c) (d + 1) (nI (sc_c (sc_o w c) i)) (nI i) := by
  intro d
  induction d with
  | zero =>
    intro i e
    have e : i = 13 := by omega
    subst e
    refine pk_le 13 13 (fun _ => ?_) (fun z => absurd z (by omega))
    have hl := sc_cle (sc_o w c) 13
    have hb : sc_g w c % 2 < 2 := Nat.mod_lt _ (by omega)
    refine pk_eq (sc_g w c % 2) 1 (fun z => h1 z) (fun z => h0 (by omega)) (sc_od _ (by omega)) rfl
  | succ d ih =>
    intro i e
    refine pk_le 13 i (fun z => absurd z (by omega)) (fun _ => ?_)
    have hl : i &&& c ≤ i := Nat.and_le_left
    refine pk_eq (i &&& c) 0 (fun z => ?_) (fun z => ?_) (nx_and i c) rfl
    · have k := ih (i + 1) (by omega)
      rw [sc_cF (sc_oF z)] at k
      exact nm_r (nI_1 i) k
    · have k := ih (i + 1) (by omega)
      refine nm_r (e' := nI (sc_c (sc_o w c) (i + 1))) ?_ (nm_r (nI_1 i) k)
      rw [sc_bit w i (by omega), nI_add, sc_cs, sc_oT z]
theorem sx_og {post : Int32 → Prop} {w : Int32} {c : Nat} (hc : c < 2 ^ 31) (h1 : sc_g w c % 2 = 1 → post 1) (h0 : sc_g w c % 2 = 0 → post 0) : wpX_oddGroup post w (nI c) := by
  unfold wpX_oddGroup
  refine ⟨13, ?_⟩
  have k := sx_ogL hc h1 h0 12 1 rfl
  rw [sc_g1] at k
  exact k
theorem sx_pl {post : Int32 → Prop} {v : Int32} (h : post (sc_pl v)) : wpX_placeByte post v := h
theorem sx_enE {post : Int32 → Prop} {w : Int32} {n : Nat} (h : post (sc_fin w)) : wX_encode_7 post (n + 1) w (nI 16) := by
  refine pk_le 13 16 (fun _ => ?_) (fun z => absurd z (by omega))
  refine sx_co ?_
  have hl := sc_cle (bt w) 13
  rw [sc_od _ (by omega)]
  unfold sc_fin at h
  rcases Nat.mod_two_eq_zero_or_one (sc_c (bt w) 13) with z | z
  · rw [z, if_neg (by omega)] at h
    rw [z, nI_0, Int32.or_zero]
    exact h
  · rw [if_pos z] at h
    rw [z]
    exact h
theorem sx_enS {post : Int32 → Prop} {w : Int32} {n : Nat} (c c2 : Nat) (m : Int32) (hc : c < 13) (hm : (1 : Int32) <<< (nI c &&& 31) = m) (h2 : nI c <<< ((1 : Int32) &&& 31) = nI c2) (h : wX_encode_7 post n (sc_st w c m) (nI c2)) : wX_encode_7 post (n + 1) w (nI c) := by
  refine pk_le 13 c (fun z => absurd z (by omega)) (fun _ => ?_)
  unfold sc_st at h
  refine sx_og (by omega) (fun z => ?_) (fun z => ?_)
  · rw [if_pos z] at h
    refine br_f (by decide) (nm_r (e' := w ||| m) (by rw [hm]) (nm_r h2 h))
  · rw [if_neg (by omega)] at h
    exact br_t rfl (nm_r h2 h)
theorem sx_en {post : Int32 → Prop} {v : Int32} (h : post (sc_fin (sc_e4 (sc_pl v)))) : wpX_encode post v := by
  unfold wpX_encode
  refine sx_pl ?_
  refine ⟨5, ?_⟩
  refine sx_enS 1 2 2 (by omega) (by decide) (by decide) ?_
  refine sx_enS 2 4 4 (by omega) (by decide) (by decide) ?_
  refine sx_enS 4 8 16 (by omega) (by decide) (by decide) ?_
  refine sx_enS 8 16 256 (by omega) (by decide) (by decide) ?_
  exact sx_enE h
theorem sx_cl {post : Int32 → Prop} {x : Int32} {r : Nat} (h : (x < 0 ∧ r = 0) ∨ (nI 33 ≤ x ∧ r = 32) ∨ (r < 33 ∧ x = nI r)) (p : post (nI r)) : wpX_clampCount post x := by
  unfold wpX_clampCount
  rcases h with ⟨a, rfl⟩ | ⟨a, rfl⟩ | ⟨a, rfl⟩
  · exact br_f (Int32.not_le.mpr a) p
  · exact br_t (Int32.le_trans (nI_pos' (n := 33) (by omega)) a) (br_f (Int32.not_le.mpr (sc_gt (n := 32) (by omega) a)) p)
  · exact br_t (nI_pos' (by omega)) (br_t (nI_le (b := 32) (by omega) (by omega)) p)
