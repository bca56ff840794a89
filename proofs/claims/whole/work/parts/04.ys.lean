/-! the reference's own small methods -/
theorem sc_gt {x : Int32} {n : Nat} (hn : n + 1 < 2 ^ 31) (h : nI (n + 1) ≤ x) : nI n < x := by
  rw [Int32.le_iff_toInt_le, nI_toInt (by omega)] at h
  rw [Int32.lt_iff_toInt_lt, nI_toInt (by omega)]
  omega
theorem sy_bi {post : Int32 → Prop} {s : SY} {x : Int32} {i : Nat} (hi : i < 32) (h : post (nI (bt x i).toNat)) : wpY_bit post s x (nI i) := by
  unfold wpY_bit
  rw [sc_bit x i hi]
  exact h
theorem sy_wt {post : Int32 → Prop} {s : SY} {w : Nat} (h : w < 16) (p : post 1) : wpY_isWord post s (nI w) := by
  unfold wpY_isWord
  exact br_f (nI_pos (by omega)) (br_f (nI_nlt (b := 15) (by omega) (by omega)) ⟨rfl, p⟩)
theorem sy_wf {post : Int32 → Prop} {s : SY} {x : Int32} (h : x < 0 ∨ nI 16 ≤ x) (p : post 0) : wpY_isWord post s x := by
  unfold wpY_isWord
  by_cases z : x < 0
  · exact br_t z ⟨rfl, p⟩
  · exact br_f z (br_t (sc_gt (n := 15) (by omega) (h.resolve_left z)) ⟨rfl, p⟩)
theorem sc_qs (k d n i : Nat) : sc_q k (d + 1) n i = if i = 1 ∨ i = 2 ∨ i = 4 ∨ i = 8 then sc_q k d n (i + 1) else if n = k then i else sc_q k d (n + 1) (i + 1) := rfl
theorem sy_poL {post : Int32 → Prop} {s : SY} {k : Nat} (hk : k < 8) : ∀ d n i, i + d = 13 → n ≤ i → post (nI (sc_q k d n i)) → wY_placeOf_4 post (nI k) (d + 1) (nI n) (nI i) := by
  intro d
  induction d with
  | zero =>
    intro n i e hn h
    have e : i = 13 := by omega
    subst e
    exact pk_lt 12 13 (fun _ => h) (fun z => absurd z (by omega))
  | succ d ih =>
    intro n i e hn h
    refine pk_lt 12 i (fun z => absurd z (by omega)) (fun _ => ?_)
    rw [sc_qs] at h
    refine pk_eq i 1 (fun z => ?_) (fun z1 => pk_eq i 2 (fun z => ?_) (fun z2 => pk_eq i 4 (fun z => ?_) (fun z4 => pk_eq i 8 (fun z => ?_) (fun z8 => pk_eq n k (fun z => ?_) (fun z => ?_)))))
    · rw [if_pos (by omega)] at h
      exact nm_r (nI_1 i) (ih n (i + 1) (by omega) (by omega) h)
    · rw [if_pos (by omega)] at h
      exact nm_r (nI_1 i) (ih n (i + 1) (by omega) (by omega) h)
    · rw [if_pos (by omega)] at h
      exact nm_r (nI_1 i) (ih n (i + 1) (by omega) (by omega) h)
    · rw [if_pos (by omega)] at h
      exact nm_r (nI_1 i) (ih n (i + 1) (by omega) (by omega) h)
    · rw [if_neg (by omega), if_pos z] at h
      exact h
    · rw [if_neg (by omega), if_neg z] at h
      exact nm_r (nI_1 n) (nm_r (nI_1 i) (ih (n + 1) (i + 1) (by omega) (by omega) h))
theorem sy_po {post : Int32 → Prop} {s : SY} {k : Nat} (hk : k < 8) (h : post (nI (sc_p k))) : wpY_placeOf post s (nI k) := by
  unfold wpY_placeOf
  rw [← sc_qp k hk] at h
  exact ⟨13, sy_poL (s := s) hk 12 0 1 rfl (by omega) h⟩
/-- what even counts -/
def sc_h (w : Int32) (c : Nat) : Nat → Bool := fun i => (decide (c = 0) || decide (¬ i &&& c = 0)) && bt w i
theorem sc_h0 (w : Int32) : sc_c (sc_h w 0) 13 = sc_c (bt w) 13 := by
  refine sc_cx 13 (fun i _ => ?_)
  unfold sc_h
  rw [decide_eq_true rfl, Bool.true_or, Bool.true_and]
theorem sc_hc (w : Int32) {c : Nat} (h : ¬ c = 0) : sc_c (sc_h w c) 13 = sc_g w c := by
  refine sc_cx 13 (fun i _ => ?_)
  unfold sc_h
  rw [decide_eq_false h, Bool.false_or]
theorem sy_evL {post : Int32 → Prop} {s : SY} {w : Int32} {c : Nat} (hc : c < 2 ^ 31) (h1 : sc_c (sc_h w c) 13 % 2 = 0 → post 1) (h0 : sc_c (sc_h w c) 13 % 2 = 1 → post 0) : ∀ d i, i + d = 13 → wY_even_5 post w (nI c) s (d + 1) (nI (sc_c (sc_h w c) i)) (nI i) := by
  intro d
  induction d with
  | zero =>
    intro i e
    have e : i = 13 := by omega
    subst e
    refine pk_lt 12 13 (fun _ => ?_) (fun z => absurd z (by omega))
    have hl := sc_cle (sc_h w c) 13
    have hb : sc_c (sc_h w c) 13 % 2 < 2 := Nat.mod_lt _ (by omega)
    refine pk_eq (sc_c (sc_h w c) 13 % 2) 0 (fun z => ⟨rfl, h1 z⟩) (fun z => ⟨rfl, h0 (by omega)⟩) (pk_rem (d := 2) (by omega) (by omega) (by omega)) rfl
  | succ d ih =>
    intro i e
    refine pk_lt 12 i (fun z => absurd z (by omega)) (fun _ => ?_)
    have k := ih (i + 1) (by omega)
    have hl : i &&& c ≤ i := Nat.and_le_left
    have add : sc_h w c i = bt w i → wpY_bit (fun r => ∀ x3, x3 = nI (sc_c (sc_h w c) i) + r → ∀ x4, x4 = nI i + 1 → wY_even_5 post w (nI c) s (d + 1) x3 x4) s w (nI i) := by
      intro z
      refine sy_bi (by omega) (nm_r (e' := nI (sc_c (sc_h w c) (i + 1))) ?_ (nm_r (nI_1 i) k))
      rw [nI_add, sc_cs, z]
    refine pk_eq c 0 (fun z => ?_) (fun z => pk_eq (i &&& c) 0 (fun y => ?_) (fun y => ?_) (nx_and i c) rfl)
    · refine add ?_
      unfold sc_h
      rw [decide_eq_true z, Bool.true_or, Bool.true_and]
    · have q : sc_h w c i = false := by
        unfold sc_h
        rw [decide_eq_false z, y]
        rfl
      rw [sc_cF q] at k
      exact nm_r (nI_1 i) k
    · refine add ?_
      unfold sc_h
      rw [decide_eq_true y, Bool.or_true, Bool.true_and]
theorem sy_ev {post : Int32 → Prop} {s : SY} {w : Int32} {c : Nat} (hc : c < 2 ^ 31) (h1 : sc_c (sc_h w c) 13 % 2 = 0 → post 1) (h0 : sc_c (sc_h w c) 13 % 2 = 1 → post 0) : wpY_even post s w (nI c) := by
  unfold wpY_even
  exact ⟨14, sy_evL hc h1 h0 13 0 rfl⟩
theorem sy_evS {post : Int32 → Prop} {s : SY} {w : Int32} (c : Nat) (m : Int32) (hc : ¬ c = 0) (hd : c < 2 ^ 31) {A : Prop} {k : Int32 → Prop} (h : k (sc_st w c m)) : wpY_even (fun r => (r = 0 → ∀ x, x = w ||| m → k x) ∧ (¬ r = 0 → k w)) s w (nI c) := by
  unfold sc_st at h
  refine sy_ev hd (fun z => ?_) (fun z => ?_)
  · rw [sc_hc w hc] at z
    rw [if_neg (by omega)] at h
    exact br_f (by decide) h
  · rw [sc_hc w hc] at z
    rw [if_pos z] at h
    exact br_t rfl (nm_e h)
