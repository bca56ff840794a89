/-! the pure picture: counts of bits, the first that fits, the code word, mending, scrubbing, the nearest -/
theorem sc_bit1 : ∀ i, i < 32 → bt 1 i = decide (i = 0) := by decide +kernel
theorem sc_bitT : ∀ i, i < 32 → bt (nI 1) i = decide (i = 0) := by decide +kernel
theorem sc_bitF : ∀ i, i < 32 → bt (nI 0) i = false := by decide +kernel
theorem sc_bitB (b : Bool) (i : Nat) (hi : i < 32) : bt (nI b.toNat) i = (b && decide (i = 0)) := by
  cases b
  · exact sc_bitF i hi
  · exact sc_bitT i hi
theorem sc_bit (x : Int32) (n : Nat) (hn : n < 32) : (x >>> (nI n &&& 31)) &&& 1 = nI (bt x n).toNat := by
  apply b_ext
  intro i hi
  rw [b_and, b_sshr n hn x hi, sc_bit1 i hi, sc_bitB _ i hi]
  by_cases z : i = 0
  · subst z
    rw [if_pos (show n + 0 < 32 from hn)]
    rfl
  · rw [decide_eq_false z, Bool.and_false, Bool.and_false]
/-- how many of the first n hold -/
def sc_c (f : Nat → Bool) : Nat → Nat
  | 0 => 0
  | n + 1 => sc_c f n + (f n).toNat
theorem sc_cs (f : Nat → Bool) (n : Nat) : sc_c f (n + 1) = sc_c f n + (f n).toNat := rfl
theorem sc_cF {f : Nat → Bool} {n : Nat} (h : f n = false) : sc_c f (n + 1) = sc_c f n := by rw [sc_cs, h]; rfl
theorem sc_cT {f : Nat → Bool} {n : Nat} (h : f n = true) : sc_c f (n + 1) = sc_c f n + 1 := by rw [sc_cs, h]; rfl
theorem sc_cle (f : Nat → Bool) : ∀ n, sc_c f n ≤ n := by
  intro n
  induction n with
  | zero => exact Nat.le_refl 0
  | succ n ih =>
    have h : (f n).toNat ≤ 1 := by cases f n <;> decide
    rw [sc_cs]
    omega
theorem sc_cx {f g : Nat → Bool} : ∀ n, (∀ i, i < n → f i = g i) → sc_c f n = sc_c g n := by
  intro n
  induction n with
  | zero => intro _; rfl
  | succ n ih =>
    intro h
    rw [sc_cs, sc_cs, ih (fun i hi => h i (by omega)), h n (by omega)]
/-- the first that holds, as an int, or e -/
def sc_f (e : Int32) (f : Nat → Bool) : Nat → Nat → Int32
  | 0, _ => e
  | d + 1, j => cond (f j) (nI j) (sc_f e f d (j + 1))
theorem sc_f0 (e : Int32) (f : Nat → Bool) (j : Nat) : sc_f e f 0 j = e := rfl
theorem sc_ft {e : Int32} {f : Nat → Bool} {d j : Nat} (h : f j = true) : sc_f e f (d + 1) j = nI j := by
  show cond (f j) (nI j) (sc_f e f d (j + 1)) = nI j
  rw [h]; rfl
theorem sc_ff {e : Int32} {f : Nat → Bool} {d j : Nat} (h : f j = false) : sc_f e f (d + 1) j = sc_f e f d (j + 1) := by
  show cond (f j) (nI j) (sc_f e f d (j + 1)) = _
  rw [h]; rfl
theorem sc_fr (e : Int32) (f : Nat → Bool) : ∀ d j, sc_f e f d j = e ∨ ∃ v, v < j + d ∧ sc_f e f d j = nI v := by
  intro d
  induction d with
  | zero => intro j; exact Or.inl rfl
  | succ d ih =>
    intro j
    cases h : f j
    · rw [sc_ff h]
      rcases ih (j + 1) with z | ⟨v, hv, z⟩
      · exact Or.inl z
      · exact Or.inr ⟨v, by omega, z⟩
    · rw [sc_ft h]
      exact Or.inr ⟨j, by omega, rfl⟩
/-- how far two words are apart -/
def sc_d (x y : Int32) : Nat := sc_c (bt (x ^^^ y)) 13
theorem sc_dle (x y : Int32) : sc_d x y ≤ 13 := sc_cle _ 13
/-- the byte that a word reads as, or -2 -/
def sc_vf (c : Nat → Int32) (x : Int32) : Nat → Bool := fun v => decide (sc_d x (c v) ≤ 1)
theorem sc_vft {c : Nat → Int32} {x : Int32} {v : Nat} (h : sc_d x (c v) ≤ 1) : sc_vf c x v = true := decide_eq_true h
theorem sc_vff {c : Nat → Int32} {x : Int32} {v : Nat} (h : 1 < sc_d x (c v)) : sc_vf c x v = false := decide_eq_false (by omega)
def sc_v (c : Nat → Int32) (x : Int32) : Int32 := sc_f (-2) (sc_vf c x) 256 0
theorem sc_vr (c : Nat → Int32) (x : Int32) : sc_v c x = -2 ∨ ∃ v, v < 256 ∧ sc_v c x = nI v := by
  rcases sc_fr (-2) (sc_vf c x) 256 0 with z | ⟨v, hv, z⟩
  · exact Or.inl z
  · exact Or.inr ⟨v, by omega, z⟩
theorem sc_n2 {v : Nat} (h : v < 256) : ¬ nI v = -2 := by
  intro e
  have a : ¬ nI v < 0 := nI_pos (by omega)
  rw [e] at a
  exact a (by decide)
/-- mending word w: the answer, and the words behind it -/
def sc_m (c a : Nat → Int32) (w : Nat) : Int32 × (Nat → Int32) :=
  if sc_v c (a w) = -2 then (-2, a)
  else (sc_f 13 (bt (a w ^^^ c (sc_v c (a w)).toNatClampNeg)) 13 0, upd a w (c (sc_v c (a w)).toNatClampNeg))
theorem sc_m2 {c a : Nat → Int32} {w : Nat} (h : sc_v c (a w) = -2) : sc_m c a w = (-2, a) := if_pos h
theorem sc_mv {c a : Nat → Int32} {w v : Nat} (hv : v < 256) (h : sc_v c (a w) = nI v) : sc_m c a w = (sc_f 13 (bt (a w ^^^ c v)) 13 0, upd a w (c v)) := by
  have e : (sc_v c (a w)).toNatClampNeg = v := by rw [h]; exact nI_clamp (by omega)
  have n : ¬ sc_v c (a w) = -2 := by rw [h]; exact sc_n2 hv
  unfold sc_m
  rw [if_neg n, e]
/-- does an answer name a bit -/
def sc_ib (x : Int32) : Bool := decide (0 ≤ x ∧ x < 13)
/-- scrubbing d times: count, hand, words -/
def sc_s (c : Nat → Int32) : Nat → Nat → Nat → (Nat → Int32) → Nat × Nat × (Nat → Int32)
  | 0, t, h, a => (t, h, a)
  | d + 1, t, h, a => sc_s c d (t + (sc_ib (sc_m c a h).1).toNat) ((h + 1) % 16) (sc_m c a h).2
theorem sc_s0 (c : Nat → Int32) (t h : Nat) (a : Nat → Int32) : sc_s c 0 t h a = (t, h, a) := rfl
theorem sc_ss (c : Nat → Int32) (d t h : Nat) (a : Nat → Int32) : sc_s c (d + 1) t h a = sc_s c d (t + (sc_ib (sc_m c a h).1).toNat) ((h + 1) % 16) (sc_m c a h).2 := rfl
theorem sc_sh (c : Nat → Int32) : ∀ d t h a, h < 16 → (sc_s c d t h a).2.1 < 16 := by
  intro d
  induction d with
  | zero => intro t h a hh; exact hh
  | succ d ih => intro t h a _; rw [sc_ss]; exact ih _ _ _ (Nat.mod_lt _ (by omega))
/-- one step of the search for the nearest: least, holders -/
def sc_n1 (d : Nat) (s : Nat × Nat) : Nat × Nat := if d < s.1 then (d, 1) else if d = s.1 then (s.1, s.2 + 1) else s
def sc_n (f : Nat → Nat) : Nat → Nat → Nat × Nat → Nat × Nat
  | 0, _, s => s
  | d + 1, j, s => sc_n f d (j + 1) (sc_n1 (f j) s)
theorem sc_ns (f : Nat → Nat) (d j : Nat) (s : Nat × Nat) : sc_n f (d + 1) j s = sc_n f d (j + 1) (sc_n1 (f j) s) := rfl
theorem sc_n1a {d l h : Nat} (z : d < l) : sc_n1 d (l, h) = (d, 1) := if_pos z
theorem sc_n1b (l h : Nat) : sc_n1 l (l, h) = (l, h + 1) := by
  unfold sc_n1
  rw [if_neg (Nat.lt_irrefl l), if_pos rfl]
theorem sc_n1c {d l h : Nat} (z : l < d) : sc_n1 d (l, h) = (l, h) := by
  unfold sc_n1
  rw [if_neg (show ¬ d < l by omega), if_neg (show ¬ d = l by omega)]
theorem sc_nn {d : Nat} (h : d ≤ 13) : sc_n1 d (14, 0) = sc_n1 d (13, 0) := by
  rcases Nat.lt_or_ge d 13 with z | z
  · rw [sc_n1a (show d < 14 by omega), sc_n1a z]
  · have e : d = 13 := by omega
    subst e
    rfl
theorem sc_nne (f : Nat → Nat) (h : f 0 ≤ 13) (d : Nat) : sc_n f (d + 1) 0 (14, 0) = sc_n f (d + 1) 0 (13, 0) := by
  rw [sc_ns, sc_ns, sc_nn h]
/-- the code word of a byte -/
def sc_o (w : Int32) (c : Nat) : Nat → Bool := fun i => decide (¬ i &&& c = 0) && bt w i
def sc_g (w : Int32) (c : Nat) : Nat := sc_c (sc_o w c) 13
def sc_st (w : Int32) (c : Nat) (m : Int32) : Int32 := if sc_g w c % 2 = 1 then w ||| m else w
def sc_e4 (w : Int32) : Int32 := sc_st (sc_st (sc_st (sc_st w 1 2) 2 4) 4 16) 8 256
def sc_fin (w : Int32) : Int32 := if sc_c (bt w) 13 % 2 = 1 then w ||| 1 else w
def sc_pl (v : Int32) : Int32 := (((v &&& 1) <<< ((3 : Int32) &&& 31)) ||| ((v &&& 14) <<< ((4 : Int32) &&& 31))) ||| ((v &&& 240) <<< ((5 : Int32) &&& 31))
def sc_C (v : Nat) : Int32 := sc_fin (sc_e4 (sc_pl (nI v)))
/-- the place of the k-th bit of a byte -/
def sc_p (k : Nat) : Nat := if k = 0 then 3 else if k < 4 then k + 4 else k + 5
def sc_y (v : Int32) : Nat → Int32
  | 0 => 0
  | k + 1 => sc_y v k ||| (nI (bt v k).toNat <<< (nI (sc_p k) &&& 31))
theorem sc_ys (v : Int32) (k : Nat) : sc_y v (k + 1) = sc_y v k ||| (nI (bt v k).toNat <<< (nI (sc_p k) &&& 31)) := rfl
theorem sc_yp : ∀ v, v < 256 → sc_y (nI v) 8 = sc_pl (nI v) := by decide +kernel
/-- the search for a place, as the reference walks it -/
def sc_q (k : Nat) : Nat → Nat → Nat → Nat
  | 0, _, _ => 0
  | d + 1, n, i => if i = 1 ∨ i = 2 ∨ i = 4 ∨ i = 8 then sc_q k d n (i + 1) else if n = k then i else sc_q k d (n + 1) (i + 1)
theorem sc_qp : ∀ k, k < 8 → sc_q k 12 0 1 = sc_p k := by decide +kernel
/-- a table filled up to i -/
def sc_T (C : Nat → Int32) (i : Nat) : Nat → Int32 := fun j => if j < i then C j else 0
theorem sc_T0 (C : Nat → Int32) : sc_T C 0 = fun _ => 0 := by
  funext j
  exact if_neg (by omega)
theorem sc_Ts (C : Nat → Int32) (i : Nat) : upd (sc_T C i) i (C i) = sc_T C (i + 1) := by
  funext j
  unfold upd sc_T
  by_cases h : j = i
  · subst h
    rw [if_pos rfl, if_pos (by omega)]
  · rw [if_neg h]
    by_cases h2 : j < i
    · rw [if_pos h2, if_pos (by omega)]
    · rw [if_neg h2, if_neg (by omega)]
theorem sc_Tv (C : Nat → Int32) {i j : Nat} (h : j < i) : sc_T C i j = C j := if_pos h
theorem sc_od (n : Nat) (h : n < 2 ^ 31) : nI n &&& 1 = nI (n % 2) := pk_andN (by omega) 1 (by decide)
theorem sc_xb (x y : Int32) (i : Nat) : bt (x ^^^ y) i = (bt x i ^^ bt y i) := b_xor x y i
theorem sc_b2 (a b : Bool) : nI a.toNat = nI b.toNat ↔ (a ^^ b) = false := by
  cases a <;> cases b <;> decide +kernel
theorem sc_12 (x : Int32) : x ≤ 12 ↔ x < 13 := by
  rw [Int32.le_iff_toInt_le, Int32.lt_iff_toInt_lt, show (12 : Int32).toInt = 12 from by decide, show (13 : Int32).toInt = 13 from by decide]
  omega
theorem sc_15 (x : Int32) : x ≤ 15 ↔ x < 16 := by
  rw [Int32.le_iff_toInt_le, Int32.lt_iff_toInt_lt, show (15 : Int32).toInt = 15 from by decide, show (16 : Int32).toInt = 16 from by decide]
  omega
theorem sc_255 (x : Int32) : x ≤ 255 ↔ x < 256 := by
  rw [Int32.le_iff_toInt_le, Int32.lt_iff_toInt_lt, show (255 : Int32).toInt = 255 from by decide, show (256 : Int32).toInt = 256 from by decide]
  omega
theorem sc_gt {x : Int32} {n : Nat} (hn : n + 1 < 2 ^ 31) (h : nI (n + 1) ≤ x) : nI n < x := by
  rw [Int32.le_iff_toInt_le, nI_toInt (by omega)] at h
  rw [Int32.lt_iff_toInt_lt, nI_toInt (by omega)]
  omega
