/-! the reference's own small methods -/
theorem sy_bi {post : Int32 → Prop} {H : Int32} {A C : Nat → Int32} {x : Int32} {i : Nat} (hi : i < 32) (h : post (nI (bt x i).toNat)) : wpY_bit post (H, A, C) x (nI i) := by
  unfold wpY_bit
  rw [sc_bit x i hi]
  exact h
theorem sy_wt {post : Int32 → Prop} {H : Int32} {A C : Nat → Int32} {w : Nat} (h : w < 16) (p : post 1) : wpY_isWord post (H, A, C) (nI w) := by
  unfold wpY_isWord
  exact br_f (nI_pos (by omega)) (br_f (nI_nlt (a := 15) (by omega) (by omega)) p)
theorem sy_wf {post : Int32 → Prop} {H : Int32} {A C : Nat → Int32} {x : Int32} (h : x < 0 ∨ nI 16 ≤ x) (p : post 0) : wpY_isWord post (H, A, C) x := by
  unfold wpY_isWord
  by_cases z : x < 0
  · exact br_t z p
  · exact br_f z (br_t (sc_gt (n := 15) (by omega) (h.resolve_left z)) p)
theorem sc_qs (k d n i : Nat) : sc_q k (d + 1) n i = if i = 1 ∨ i = 2 ∨ i = 4 ∨ i = 8 then sc_q k d n (i + 1) else if n = k then i else sc_q k d (n + 1) (i + 1) := rfl
theorem sy_poL {post : Int32 → Prop} {H : Int32} {A C : Nat → Int32} {k : Nat} (hk : k < 8) : ∀ d n i, i + d = 13 → n ≤ i → post (nI (sc_q k d n i)) → wY_placeOf_4 post (nI k) H A C (d + 1) (nI n) (nI i) := by
  intro d
  induction d with
  | zero =>
    intro n i e hn h
    have e : i = 13 := by omega
    subst e
    exact pk_lt 12 13 (fun _ => h) (fun z => absurd z (by omega))
  | succ d ih =>
    intro n i e hn h
    refine pk_lt 12 i (fun z => absurd z (by omega)) (fun _ => ?_)
    rw [sc_qs] at h
    refine pk_eq i 1 (fun z => ?_) (fun z1 => pk_eq i 2 (fun z => ?_) (fun z2 => pk_eq i 4 (fun z => ?_) (fun z4 => pk_eq i 8 (fun z => ?_) (fun z8 => pk_eq n k (fun z => ?_) (fun z => ?_)))))
    · rw [if_pos (by omega)] at h
      exact nm_r (nI_1 i) (ih n (i + 1) (by omega) (by omega) h)
    · rw [if_pos (by omega)] at h
      exact nm_r (nI_1 i) (ih n (i + 1) (by omega) (by omega) h)
    · rw [if_pos (by omega)] at h
      exact nm_r (nI_1 i) (ih n (i + 1) (by omega) (by omega) h)
    · rw [if_pos (by omega)] at h
      exact nm_r (nI_1 i) (ih n (i + 1) (by omega) (by omega) h)
    · rw [if_neg (by omega), if_pos z] at h
      exact h
    · rw [if_neg (by omega), if_neg z] at h
      exact nm_r (nI_1 n) (nm_r (nI_1 i) (ih (n + 1) (i + 1) (by omega) (by omega) h))
theorem sy_po {post : Int32 → Prop} {H : Int32} {A C : Nat → Int32} {k : Nat} (hk : k < 8) (h : post (nI (sc_p k))) : wpY_placeOf post (H, A, C) (nI k) := by
  unfold wpY_placeOf
  rw [← sc_qp k hk] at h
  exact ⟨13, sy_poL hk 12 0 1 rfl (by omega) h⟩
/-- what even counts -/
def sc_h (w : Int32) (c : Nat) : Nat → Bool := fun i => (decide (c = 0) || decide (¬ i &&& c = 0)) && bt w i
theorem sc_h0 (w : Int32) : sc_c (sc_h w 0) 13 = sc_c (bt w) 13 := by
  refine sc_cx 13 (fun i _ => ?_)
  unfold sc_h
  rw [decide_eq_true rfl, Bool.true_or, Bool.true_and]
theorem sc_hc (w : Int32) {c : Nat} (h : ¬ c = 0) : sc_c (sc_h w c) 13 = sc_g w c := by
  refine sc_cx 13 (fun i _ => ?_)
  unfold sc_h
  rw [decide_eq_false h, Bool.false_or]
  rfl
theorem sy_evL {post : Int32 → Prop} {H : Int32} {A C : Nat → Int32} {w : Int32} {c : Nat} (hc : c < 2 ^ 31) (h1 : sc_c (sc_h w c) 13 % 2 = 0 → post 1) (h0 : sc_c (sc_h w c) 13 % 2 = 1 → post 0) : ∀ d i, i + d = 13 → wY_even_5 post w (nI c) H A C (d + 1) (nI (sc_c (sc_h w c) i)) (nI i) := by
  intro d
  induction d with
  | zero =>
    intro i e
    have e : i = 13 := by omega
    subst e
    refine pk_lt 12 13 (fun _ => ?_) (fun z => absurd z (by omega))
    have hl := sc_cle (sc_h w c) 13
    have hb : sc_c (sc_h w c) 13 % 2 < 2 := Nat.mod_lt _ (by omega)
    refine ⟨by decide, pk_eq (sc_c (sc_h w c) 13 % 2) 0 h1 (fun z => h0 (by omega)) (pk_rem (d := 2) (by omega) (by omega) (by omega)) rfl⟩
  | succ d ih =>
    intro i e
    refine pk_lt 12 i (fun z => absurd z (by omega)) (fun _ => ?_)
    have k := ih (i + 1) (by omega)
    have hl : i &&& c ≤ i := Nat.and_le_left
    have add : sc_h w c i = bt w i → wY_even_23 post (wY_even_5 post w (nI c) H A C (d + 1)) w (nI c) (nI (sc_c (sc_h w c) i)) (nI i) H A C := by
      intro z
      refine sy_bi (by omega) (nm_r (e' := nI (sc_c (sc_h w c) (i + 1))) ?_ (nm_r (nI_1 i) k))
      rw [nI_add, sc_cs, z]
    refine pk_eq c 0 (fun z => ?_) (fun z => pk_eq (i &&& c) 0 (fun y => ?_) (fun y => ?_) (nx_and i c) rfl)
    · refine add ?_
      unfold sc_h
      rw [decide_eq_true z, Bool.true_or, Bool.true_and]
    · have q : sc_h w c i = false := by
        unfold sc_h
        rw [decide_eq_false z, y]
        rfl
      rw [sc_cF q] at k
      exact nm_r (nI_1 i) k
    · refine add ?_
      unfold sc_h
      rw [decide_eq_true y, Bool.or_true, Bool.true_and]
theorem sy_ev {post : Int32 → Prop} {H : Int32} {A C : Nat → Int32} {w : Int32} {c : Nat} (hc : c < 2 ^ 31) (h1 : sc_c (sc_h w c) 13 % 2 = 0 → post 1) (h0 : sc_c (sc_h w c) 13 % 2 = 1 → post 0) : wpY_even post (H, A, C) w (nI c) := by
  unfold wpY_even
  exact ⟨14, sy_evL hc h1 h0 13 0 rfl⟩
theorem sy_evS {H : Int32} {A C : Nat → Int32} {w : Int32} (c : Nat) (m : Int32) (hc : ¬ c = 0) (hd : c < 2 ^ 31) {k : Int32 → Prop} (h : k (sc_st w c m)) : wpY_even (fun r => (r = 0 → ∀ x, x = w ||| m → k x) ∧ (¬ r = 0 → k w)) (H, A, C) w (nI c) := by
  unfold sc_st at h
  refine sy_ev hd (fun z => ?_) (fun z => ?_)
  · rw [sc_hc w hc] at z
    rw [if_neg (by omega)] at h
    exact br_f (by decide) h
  · rw [sc_hc w hc] at z
    rw [if_pos z] at h
    exact br_t rfl (nm_e h)
theorem sy_co91 {post : Int32 → Prop} {H : Int32} {A C : Nat → Int32} {w : Int32} (h : post (sc_fin w)) : wY_codeOf_91 post w H A C := by
  unfold sc_fin at h
  unfold wY_codeOf_91
  refine sy_ev (c := 0) (by omega) (fun z => ?_) (fun z => ?_)
  · rw [sc_h0] at z
    rw [if_neg (by omega)] at h
    exact br_f (by decide) h
  · rw [sc_h0] at z
    rw [if_pos z] at h
    exact br_t rfl h
theorem sy_co75 {post : Int32 → Prop} {H : Int32} {A C : Nat → Int32} {w : Int32} (h : post (sc_fin (sc_st w 8 256))) : wY_codeOf_75 post w H A C := by
  unfold wY_codeOf_75
  exact sy_evS (k := fun x => wY_codeOf_91 post x H A C) 8 256 (by omega) (by omega) (sy_co91 h)
theorem sy_co61 {post : Int32 → Prop} {H : Int32} {A C : Nat → Int32} {w : Int32} (h : post (sc_fin (sc_st (sc_st w 4 16) 8 256))) : wY_codeOf_61 post w H A C := by
  unfold wY_codeOf_61
  exact sy_evS (k := fun x => wY_codeOf_75 post x H A C) 4 16 (by omega) (by omega) (sy_co75 h)
theorem sy_co48 {post : Int32 → Prop} {H : Int32} {A C : Nat → Int32} {w : Int32} (h : post (sc_fin (sc_st (sc_st (sc_st w 2 4) 4 16) 8 256))) : wY_codeOf_48 post w H A C := by
  unfold wY_codeOf_48
  exact sy_evS (k := fun x => wY_codeOf_61 post x H A C) 2 4 (by omega) (by omega) (sy_co61 h)
theorem sy_coL {post : Int32 → Prop} {H : Int32} {A C : Nat → Int32} {v : Nat} (hv : v < 256) (h : post (sc_C v)) : ∀ d i, i + d = 8 → wY_codeOf_4 post (nI v) H A C (d + 1) (sc_y (nI v) i) (nI i) := by
  intro d
  induction d with
  | zero =>
    intro i e
    have e : i = 8 := by omega
    subst e
    refine pk_le 8 8 (fun _ => ?_) (fun z => absurd z (by omega))
    rw [sc_yp v hv]
    exact sy_evS (k := fun x => wY_codeOf_48 post x H A C) 1 2 (by omega) (by omega) (sy_co48 h)
  | succ d ih =>
    intro i e
    refine pk_le 8 i (fun z => absurd z (by omega)) (fun _ => ?_)
    exact sy_po (by omega) (sy_bi (by omega) (nm_r (sc_ys (nI v) i).symm (nm_r (nI_1 i) (ih (i + 1) (by omega)))))
theorem sy_co {post : Int32 → Prop} {H : Int32} {A C : Nat → Int32} {v : Nat} (hv : v < 256) (h : post (sc_C v)) : wpY_codeOf post (H, A, C) (nI v) := by
  unfold wpY_codeOf
  exact ⟨9, sy_coL hv h 8 0 rfl⟩
