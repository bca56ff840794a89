section
/-! rows pasted from kit/rows -/
theorem pk_us {f : Nat → Int32} {k : Nat} {x : Int32} : upd f k x k = x := if_pos rfl
theorem pk_un {f : Nat → Int32} {k j : Nat} {x : Int32} (h : j ≠ k) : upd f k x j = f j := if_neg h
theorem pk_sub {a b : Nat} (h : b ≤ a) : nI a - nI b = nI (a - b) := by
  obtain ⟨c, rfl⟩ : ∃ c, a = c + b := ⟨a - b, by omega⟩
  rw [← nI_add, Int32.add_sub_cancel, Nat.add_sub_cancel]
theorem pk_m1 (n : Nat) : nI (n + 1) + (-1) = nI n := by
  rw [← nI_1, Int32.add_assoc, show (1 : Int32) + (-1) = 0 from rfl, Int32.add_zero]
theorem pk_mul (a b : Nat) : nI a * nI b = nI (a * b) := (Int32.ofNat_mul a b).symm
theorem pk_div {a d : Nat} (ha : a < 2 ^ 31) (h0 : 0 < d) (hd : d < 2 ^ 31) : nI a / nI d = nI (a / d) := by
  apply Int32.toInt_inj.mp
  rw [lg_idiv_nonneg (by rw [nI_toInt ha]; omega) (by rw [nI_toInt hd]; omega), nI_toInt ha, nI_toInt hd, nI_toInt (Nat.lt_of_le_of_lt (Nat.div_le_self a d) ha)]
  first | rfl | exact (Int.natCast_ediv _ _).symm
theorem pk_rem {a d : Nat} (ha : a < 2 ^ 31) (h0 : 0 < d) (hd : d < 2 ^ 31) : nI a - nI a / nI d * nI d = nI (a % d) := by
  rw [pk_div ha h0 hd, pk_mul, pk_sub (Nat.div_mul_le_self a d)]
  exact congrArg nI (by have := Nat.div_add_mod' a d; omega)
theorem pk_ix (x : Int32) {n : Nat} (hn : n < 2 ^ 31) : x < 0 ∨ nI n ≤ x ∨ ∃ j : Nat, j < n ∧ x = nI j := by
  by_cases h : x < 0
  · exact Or.inl h
  · obtain ⟨j, hj, rfl⟩ := nI_of h
    by_cases h2 : j < n
    · exact Or.inr (Or.inr ⟨j, h2, rfl⟩)
    · exact Or.inr (Or.inl (nI_le (by omega) hj))
theorem pk_le {x y : Int32} {A B : Prop} (a b : Nat) (f : a ≤ b → A) (g : b < a → B) (hx : x = nI a := by rfl) (hy : y = nI b := by rfl) (ha : a < 2 ^ 31 := by omega) (hb : b < 2 ^ 31 := by omega) : (x ≤ y → A) ∧ (¬ x ≤ y → B) := by
  subst hx hy
  rw [nI_leI ha hb]
  exact ⟨f, fun z => g (by omega)⟩
theorem pk_lt {x y : Int32} {A B : Prop} (a b : Nat) (f : a < b → A) (g : b ≤ a → B) (hx : x = nI a := by rfl) (hy : y = nI b := by rfl) (ha : a < 2 ^ 31 := by omega) (hb : b < 2 ^ 31 := by omega) : (x < y → A) ∧ (¬ x < y → B) := by
  subst hx hy
  rw [nI_ltI ha hb]
  exact ⟨f, fun z => g (by omega)⟩
theorem pk_eq {x y : Int32} {A B : Prop} (a b : Nat) (f : a = b → A) (g : a ≠ b → B) (hx : x = nI a := by rfl) (hy : y = nI b := by rfl) (ha : a < 2 ^ 31 := by omega) (hb : b < 2 ^ 31 := by omega) : (x = y → A) ∧ (¬ x = y → B) := by
  subst hx hy
  rw [nI_eq ha hb]
  exact ⟨f, g⟩
theorem pk_in {x : Int32} (n N : Nat) (h : n < N) (hx : x = nI n := by rfl) (hN : N < 2 ^ 31 := by omega) : vp_in x N := by
  subst hx
  exact vp_in_nI h hN
theorem pk_cl {x : Int32} (n : Nat) (hx : x = nI n := by rfl) (h : n < 2 ^ 31 := by omega) : x.toNatClampNeg = n := by
  subst hx
  exact nI_clamp h
theorem pk_tn {n : Nat} (h : n < 2 ^ 32) : (nI n).toBitVec.toNat = n := Nat.mod_eq_of_lt h
theorem pk_and (x : Int32) {m : Int32} (k : Nat) (hm : m.toBitVec.toNat = 2 ^ k - 1) : x &&& m = nI (x.toBitVec.toNat % 2 ^ k) := by
  apply Int32.toBitVec_inj.mp
  apply BitVec.eq_of_toNat_eq
  rw [Int32.toBitVec_and, BitVec.toNat_and, hm, Nat.and_two_pow_sub_one_eq_mod]
  show _ = (BitVec.ofNat 32 _).toNat
  rw [BitVec.toNat_ofNat]
  exact (Nat.mod_eq_of_lt (Nat.lt_of_le_of_lt (Nat.mod_le _ _) x.toBitVec.isLt)).symm
theorem pk_andN {n : Nat} (h : n < 2 ^ 32) {m : Int32} (k : Nat) (hm : m.toBitVec.toNat = 2 ^ k - 1) : nI n &&& m = nI (n % 2 ^ k) := by
  rw [pk_and _ k hm, pk_tn h]
theorem pk_shl (a s : Int32) (k : Nat) (hs : (s.toBitVec.smod 32).toNat = k) : (a <<< s).toBitVec.toNat = a.toBitVec.toNat * 2 ^ k % 2 ^ 32 := by
  show (a.toBitVec <<< (s.toBitVec.smod 32).toNat).toNat = _
  rw [hs, BitVec.toNat_shiftLeft, Nat.shiftLeft_eq]
theorem pk_shlN {n : Nat} (s : Int32) (k : Nat) (hs : (s.toBitVec.smod 32).toNat = k) (h : n * 2 ^ k < 2 ^ 32) : nI n <<< s = nI (n * 2 ^ k) := by
  apply Int32.toBitVec_inj.mp
  apply BitVec.eq_of_toNat_eq
  have hn : n < 2 ^ 32 := Nat.lt_of_le_of_lt (Nat.le_mul_of_pos_right n (Nat.two_pow_pos k)) h
  rw [pk_shl _ _ k hs, pk_tn hn, pk_tn h, Nat.mod_eq_of_lt h]
theorem pk_shr (a s : Int32) (k : Nat) (hs : (s.toBitVec.smod 32).toNat = k) : (a >>> s).toInt = a.toInt >>> k := by
  show (a.toBitVec.sshiftRight (s.toBitVec.smod 32).toNat).toInt = _
  rw [hs, BitVec.toInt_sshiftRight]
  rfl
theorem pk_shrN {n : Nat} (h : n < 2 ^ 31) (s : Int32) (k : Nat) (hs : (s.toBitVec.smod 32).toNat = k) : nI n >>> s = nI (n / 2 ^ k) := by
  apply Int32.toInt_inj.mp
  have h2 : n / 2 ^ k ≤ n := Nat.div_le_self _ _
  rw [pk_shr _ _ k hs, nI_toInt h, nI_toInt (by omega), Int.shiftRight_eq_div_pow]
  rfl
def bt (x : Int32) (i : Nat) : Bool := x.toBitVec.getLsbD i
theorem b_ext {x y : Int32} (h : ∀ i, i < 32 → bt x i = bt y i) : x = y := Int32.toBitVec_inj.mp (BitVec.eq_of_getLsbD_eq (fun i hi => h i hi))
theorem b_or (x y : Int32) (i : Nat) : bt (x ||| y) i = (bt x i || bt y i) := by unfold bt; rw [Int32.toBitVec_or, BitVec.getLsbD_or]
theorem b_and (x y : Int32) (i : Nat) : bt (x &&& y) i = (bt x i && bt y i) := by unfold bt; rw [Int32.toBitVec_and, BitVec.getLsbD_and]
theorem b_xor (x y : Int32) (i : Nat) : bt (x ^^^ y) i = (bt x i ^^ bt y i) := by unfold bt; rw [Int32.toBitVec_xor, BitVec.getLsbD_xor]
theorem b_big {x : Int32} {i : Nat} (h : 32 ≤ i) : bt x i = false := BitVec.getLsbD_of_ge _ _ h
theorem b_0 (i : Nat) : bt 0 i = false := BitVec.getLsbD_zero
theorem s_l : ∀ n, n < 32 → ((nI n &&& 31).toBitVec.smod 32).toNat = n := by decide +kernel
theorem b_shl (n : Nat) (hn : n < 32) (x : Int32) {i : Nat} (hi : i < 32) : bt (x <<< (nI n &&& 31)) i = (decide (n ≤ i) && bt x (i - n)) := by
  unfold bt
  rw [Int32.toBitVec_shiftLeft]
  show (x.toBitVec <<< ((nI n &&& 31).toBitVec.smod 32).toNat).getLsbD i = _
  rw [s_l n hn, BitVec.getLsbD_shiftLeft]
  rcases Nat.lt_or_ge i n with h | h
  · simp [h, Nat.not_le.mpr h]
  · simp [hi, h, Nat.not_lt.mpr h]
theorem b_sshr (n : Nat) (hn : n < 32) (x : Int32) {i : Nat} (hi : i < 32) : bt (x >>> (nI n &&& 31)) i = if n + i < 32 then bt x (n + i) else bt x 31 := by
  unfold bt
  rw [Int32.toBitVec_shiftRight]
  show (x.toBitVec.sshiftRight ((nI n &&& 31).toBitVec.smod 32).toNat).getLsbD i = _
  rw [s_l n hn, BitVec.getLsbD_sshiftRight, BitVec.msb_eq_getLsbD_last]
  simp [hi]
theorem nx_and (a b : Nat) : nI a &&& nI b = nI (a &&& b) := by
  apply Int32.toBitVec_inj.1
  show BitVec.ofNat 32 a &&& BitVec.ofNat 32 b = BitVec.ofNat 32 (a &&& b)
  apply BitVec.eq_of_getLsbD_eq
  intro i hi
  simp [hi]
theorem nx_xor (a b : Nat) : nI a ^^^ nI b = nI (a ^^^ b) := by
  apply Int32.toBitVec_inj.1
  show BitVec.ofNat 32 a ^^^ BitVec.ofNat 32 b = BitVec.ofNat 32 (a ^^^ b)
  apply BitVec.eq_of_getLsbD_eq
  intro i hi
  simp [hi]
end
section
/-! the pure picture: counts of bits, the first that fits, the code word, mending, scrubbing, the nearest -/
theorem sc_bit1 : ∀ i, i < 32 → bt 1 i = decide (i = 0) := by decide +kernel
theorem sc_bitT : ∀ i, i < 32 → bt (nI 1) i = decide (i = 0) := by decide +kernel
theorem sc_bitF : ∀ i, i < 32 → bt (nI 0) i = false := by decide +kernel
theorem sc_bitB (b : Bool) (i : Nat) (hi : i < 32) : bt (nI b.toNat) i = (b && decide (i = 0)) := by
  cases b
  · exact sc_bitF i hi
  · exact sc_bitT i hi
theorem sc_bit (x : Int32) (n : Nat) (hn : n < 32) : (x >>> (nI n &&& 31)) &&& 1 = nI (bt x n).toNat := by
  apply b_ext
  intro i hi
  rw [b_and, b_sshr n hn x hi, sc_bit1 i hi, sc_bitB _ i hi]
  by_cases z : i = 0
  · subst z
    rw [if_pos (show n + 0 < 32 from hn)]
    rfl
  · rw [decide_eq_false z, Bool.and_false, Bool.and_false]
/-- how many of the first n hold -/
def sc_c (f : Nat → Bool) : Nat → Nat
  | 0 => 0
  | n + 1 => sc_c f n + (f n).toNat
theorem sc_cs (f : Nat → Bool) (n : Nat) : sc_c f (n + 1) = sc_c f n + (f n).toNat := rfl
theorem sc_cF {f : Nat → Bool} {n : Nat} (h : f n = false) : sc_c f (n + 1) = sc_c f n := by rw [sc_cs, h]; rfl
theorem sc_cT {f : Nat → Bool} {n : Nat} (h : f n = true) : sc_c f (n + 1) = sc_c f n + 1 := by rw [sc_cs, h]; rfl
theorem sc_cle (f : Nat → Bool) : ∀ n, sc_c f n ≤ n := by
  intro n
  induction n with
  | zero => exact Nat.le_refl 0
  | succ n ih =>
    have h : (f n).toNat ≤ 1 := by cases f n <;> decide
    rw [sc_cs]
    omega
theorem sc_cx {f g : Nat → Bool} : ∀ n, (∀ i, i < n → f i = g i) → sc_c f n = sc_c g n := by
  intro n
  induction n with
  | zero => intro _; rfl
  | succ n ih =>
    intro h
    rw [sc_cs, sc_cs, ih (fun i hi => h i (by omega)), h n (by omega)]
/-- the first that holds, as an int, or e -/
def sc_f (e : Int32) (f : Nat → Bool) : Nat → Nat → Int32
  | 0, _ => e
  | d + 1, j => cond (f j) (nI j) (sc_f e f d (j + 1))
theorem sc_f0 (e : Int32) (f : Nat → Bool) (j : Nat) : sc_f e f 0 j = e := rfl
theorem sc_ft {e : Int32} {f : Nat → Bool} {d j : Nat} (h : f j = true) : sc_f e f (d + 1) j = nI j := by
  show cond (f j) (nI j) (sc_f e f d (j + 1)) = nI j
  rw [h]; rfl
theorem sc_ff {e : Int32} {f : Nat → Bool} {d j : Nat} (h : f j = false) : sc_f e f (d + 1) j = sc_f e f d (j + 1) := by
  show cond (f j) (nI j) (sc_f e f d (j + 1)) = _
  rw [h]; rfl
theorem sc_fr (e : Int32) (f : Nat → Bool) : ∀ d j, sc_f e f d j = e ∨ ∃ v, v < j + d ∧ sc_f e f d j = nI v := by
  intro d
  induction d with
  | zero => intro j; exact Or.inl rfl
  | succ d ih =>
    intro j
    cases h : f j
    · rw [sc_ff h]
      rcases ih (j + 1) with z | ⟨v, hv, z⟩
      · exact Or.inl z
      · exact Or.inr ⟨v, by omega, z⟩
    · rw [sc_ft h]
      exact Or.inr ⟨j, by omega, rfl⟩
/-- how far two words are apart -/
def sc_d (x y : Int32) : Nat := sc_c (bt (x ^^^ y)) 13
theorem sc_dle (x y : Int32) : sc_d x y ≤ 13 := sc_cle _ 13
/-- the byte that a word reads as, or -2 -/
def sc_vf (c : Nat → Int32) (x : Int32) : Nat → Bool := fun v => decide (sc_d x (c v) ≤ 1)
theorem sc_vft {c : Nat → Int32} {x : Int32} {v : Nat} (h : sc_d x (c v) ≤ 1) : sc_vf c x v = true := decide_eq_true h
theorem sc_vff {c : Nat → Int32} {x : Int32} {v : Nat} (h : 1 < sc_d x (c v)) : sc_vf c x v = false := decide_eq_false (by omega)
def sc_v (c : Nat → Int32) (x : Int32) : Int32 := sc_f (-2) (sc_vf c x) 256 0
theorem sc_vr (c : Nat → Int32) (x : Int32) : sc_v c x = -2 ∨ ∃ v, v < 256 ∧ sc_v c x = nI v := by
  rcases sc_fr (-2) (sc_vf c x) 256 0 with z | ⟨v, hv, z⟩
  · exact Or.inl z
  · exact Or.inr ⟨v, by omega, z⟩
theorem sc_n2 {v : Nat} (h : v < 256) : ¬ nI v = -2 := by
  intro e
  have a : ¬ nI v < 0 := nI_pos (by omega)
  rw [e] at a
  exact a (by decide)
/-- mending word w: the answer, and the words behind it -/
def sc_m (c a : Nat → Int32) (w : Nat) : Int32 × (Nat → Int32) :=
  if sc_v c (a w) = -2 then (-2, a)
  else (sc_f 13 (bt (a w ^^^ c (sc_v c (a w)).toNatClampNeg)) 13 0, upd a w (c (sc_v c (a w)).toNatClampNeg))
theorem sc_m2 {c a : Nat → Int32} {w : Nat} (h : sc_v c (a w) = -2) : sc_m c a w = (-2, a) := if_pos h
theorem sc_mv {c a : Nat → Int32} {w v : Nat} (hv : v < 256) (h : sc_v c (a w) = nI v) : sc_m c a w = (sc_f 13 (bt (a w ^^^ c v)) 13 0, upd a w (c v)) := by
  have e : (sc_v c (a w)).toNatClampNeg = v := by rw [h]; exact nI_clamp (by omega)
  have n : ¬ sc_v c (a w) = -2 := by rw [h]; exact sc_n2 hv
  unfold sc_m
  rw [if_neg n, e]
/-- does an answer name a bit -/
def sc_ib (x : Int32) : Bool := decide (0 ≤ x ∧ x < 13)
/-- scrubbing d times: count, hand, words -/
def sc_s (c : Nat → Int32) : Nat → Nat → Nat → (Nat → Int32) → Nat × Nat × (Nat → Int32)
  | 0, t, h, a => (t, h, a)
  | d + 1, t, h, a => sc_s c d (t + (sc_ib (sc_m c a h).1).toNat) ((h + 1) % 16) (sc_m c a h).2
theorem sc_s0 (c : Nat → Int32) (t h : Nat) (a : Nat → Int32) : sc_s c 0 t h a = (t, h, a) := rfl
theorem sc_ss (c : Nat → Int32) (d t h : Nat) (a : Nat → Int32) : sc_s c (d + 1) t h a = sc_s c d (t + (sc_ib (sc_m c a h).1).toNat) ((h + 1) % 16) (sc_m c a h).2 := rfl
theorem sc_sh (c : Nat → Int32) : ∀ d t h a, h < 16 → (sc_s c d t h a).2.1 < 16 := by
  intro d
  induction d with
  | zero => intro t h a hh; exact hh
  | succ d ih => intro t h a _; rw [sc_ss]; exact ih _ _ _ (Nat.mod_lt _ (by omega))
/-- one step of the search for the nearest: least, holders -/
def sc_n1 (d : Nat) (s : Nat × Nat) : Nat × Nat := if d < s.1 then (d, 1) else if d = s.1 then (s.1, s.2 + 1) else s
def sc_n (f : Nat → Nat) : Nat → Nat → Nat × Nat → Nat × Nat
  | 0, _, s => s
  | d + 1, j, s => sc_n f d (j + 1) (sc_n1 (f j) s)
theorem sc_ns (f : Nat → Nat) (d j : Nat) (s : Nat × Nat) : sc_n f (d + 1) j s = sc_n f d (j + 1) (sc_n1 (f j) s) := rfl
theorem sc_n1a {d l h : Nat} (z : d < l) : sc_n1 d (l, h) = (d, 1) := if_pos z
theorem sc_n1b (l h : Nat) : sc_n1 l (l, h) = (l, h + 1) := by
  unfold sc_n1
  rw [if_neg (Nat.lt_irrefl l), if_pos rfl]
theorem sc_n1c {d l h : Nat} (z : l < d) : sc_n1 d (l, h) = (l, h) := by
  unfold sc_n1
  rw [if_neg (show ¬ d < l by omega), if_neg (show ¬ d = l by omega)]
theorem sc_nn {d : Nat} (h : d ≤ 13) : sc_n1 d (14, 0) = sc_n1 d (13, 0) := by
  rcases Nat.lt_or_ge d 13 with z | z
  · rw [sc_n1a (show d < 14 by omega), sc_n1a z]
  · have e : d = 13 := by omega
    subst e
    rfl
theorem sc_nne (f : Nat → Nat) (h : f 0 ≤ 13) (d : Nat) : sc_n f (d + 1) 0 (14, 0) = sc_n f (d + 1) 0 (13, 0) := by
  rw [sc_ns, sc_ns, sc_nn h]
/-- the code word of a byte -/
def sc_o (w : Int32) (c : Nat) : Nat → Bool := fun i => decide (¬ i &&& c = 0) && bt w i
def sc_g (w : Int32) (c : Nat) : Nat := sc_c (sc_o w c) 13
def sc_st (w : Int32) (c : Nat) (m : Int32) : Int32 := if sc_g w c % 2 = 1 then w ||| m else w
def sc_e4 (w : Int32) : Int32 := sc_st (sc_st (sc_st (sc_st w 1 2) 2 4) 4 16) 8 256
def sc_fin (w : Int32) : Int32 := if sc_c (bt w) 13 % 2 = 1 then w ||| 1 else w
def sc_pl (v : Int32) : Int32 := (((v &&& 1) <<< ((3 : Int32) &&& 31)) ||| ((v &&& 14) <<< ((4 : Int32) &&& 31))) ||| ((v &&& 240) <<< ((5 : Int32) &&& 31))
def sc_C (v : Nat) : Int32 := sc_fin (sc_e4 (sc_pl (nI v)))
/-- the place of the k-th bit of a byte -/
def sc_p (k : Nat) : Nat := if k = 0 then 3 else if k < 4 then k + 4 else k + 5
def sc_y (v : Int32) : Nat → Int32
  | 0 => 0
  | k + 1 => sc_y v k ||| (nI (bt v k).toNat <<< (nI (sc_p k) &&& 31))
theorem sc_ys (v : Int32) (k : Nat) : sc_y v (k + 1) = sc_y v k ||| (nI (bt v k).toNat <<< (nI (sc_p k) &&& 31)) := rfl
theorem sc_yp : ∀ v, v < 256 → sc_y (nI v) 8 = sc_pl (nI v) := by decide +kernel
/-- the search for a place, as the reference walks it -/
def sc_q (k : Nat) : Nat → Nat → Nat → Nat
  | 0, _, _ => 0
  | d + 1, n, i => if i = 1 ∨ i = 2 ∨ i = 4 ∨ i = 8 then sc_q k d n (i + 1) else if n = k then i else sc_q k d (n + 1) (i + 1)
theorem sc_qp : ∀ k, k < 8 → sc_q k 12 0 1 = sc_p k := by decide +kernel
/-- a table filled up to i -/
def sc_T (C : Nat → Int32) (i : Nat) : Nat → Int32 := fun j => if j < i then C j else 0
theorem sc_T0 (C : Nat → Int32) : sc_T C 0 = fun _ => 0 := by
  funext j
  exact if_neg (by omega)
theorem sc_Ts (C : Nat → Int32) (i : Nat) : upd (sc_T C i) i (C i) = sc_T C (i + 1) := by
  funext j
  unfold upd sc_T
  by_cases h : j = i
  · subst h
    rw [if_pos rfl, if_pos (by omega)]
  · rw [if_neg h]
    by_cases h2 : j < i
    · rw [if_pos h2, if_pos (by omega)]
    · rw [if_neg h2, if_neg (by omega)]
theorem sc_Tv (C : Nat → Int32) {i j : Nat} (h : j < i) : sc_T C i j = C j := if_pos h
theorem sc_od (n : Nat) (h : n < 2 ^ 31) : nI n &&& 1 = nI (n % 2) := pk_andN (by omega) 1 (by decide)
theorem sc_xb (x y : Int32) (i : Nat) : bt (x ^^^ y) i = (bt x i ^^ bt y i) := b_xor x y i
theorem sc_b2 (a b : Bool) : nI a.toNat = nI b.toNat ↔ (a ^^ b) = false := by
  cases a <;> cases b <;> decide +kernel
theorem sc_12 (x : Int32) : x ≤ 12 ↔ x < 13 := by
  rw [Int32.le_iff_toInt_le, Int32.lt_iff_toInt_lt, show (12 : Int32).toInt = 12 from by decide, show (13 : Int32).toInt = 13 from by decide]
  omega
theorem sc_15 (x : Int32) : x ≤ 15 ↔ x < 16 := by
  rw [Int32.le_iff_toInt_le, Int32.lt_iff_toInt_lt, show (15 : Int32).toInt = 15 from by decide, show (16 : Int32).toInt = 16 from by decide]
  omega
theorem sc_255 (x : Int32) : x ≤ 255 ↔ x < 256 := by
  rw [Int32.le_iff_toInt_le, Int32.lt_iff_toInt_lt, show (255 : Int32).toInt = 255 from by decide, show (256 : Int32).toInt = 256 from by decide]
  omega
theorem sc_gt {x : Int32} {n : Nat} (hn : n + 1 < 2 ^ 31) (h : nI (n + 1) ≤ x) : nI n < x := by
  rw [Int32.le_iff_toInt_le, nI_toInt (by omega)] at h
  rw [Int32.lt_iff_toInt_lt, nI_toInt (by omega)]
  omega
end
section
/-! the component's own static methods -/
theorem sx_wt {post : Int32 → Prop} {w : Nat} (h : w < 16) (p : post 1) : wpX_isWord post (nI w) := by
  unfold wpX_isWord
  exact br_f (nI_pos (by omega)) (br_f (nI_ge (b := 16) h (by decide)) p)
theorem sx_wf {post : Int32 → Prop} {x : Int32} (h : x < 0 ∨ nI 16 ≤ x) (p : post 0) : wpX_isWord post x := by
  unfold wpX_isWord
  by_cases z : x < 0
  · exact br_t z p
  · exact br_f z (br_t (h.resolve_left z) p)
theorem sx_bt {post : Int32 → Prop} {w : Nat} (h : w < 256) (p : post 1) : wpX_isByte post (nI w) := by
  unfold wpX_isByte
  exact br_f (nI_pos (by omega)) (br_f (nI_ge (b := 256) h (by decide)) p)
theorem sx_bf {post : Int32 → Prop} {x : Int32} (h : x < 0 ∨ nI 256 ≤ x) (p : post 0) : wpX_isByte post x := by
  unfold wpX_isByte
  by_cases z : x < 0
  · exact br_t z p
  · exact br_f z (br_t (h.resolve_left z) p)
theorem sx_it {post : Int32 → Prop} {w : Nat} (h : w < 13) (p : post 1) : wpX_isBit post (nI w) := by
  unfold wpX_isBit
  exact br_f (nI_pos (by omega)) (br_f (nI_ge (b := 13) h (by decide)) p)
theorem sx_if {post : Int32 → Prop} {x : Int32} (h : x < 0 ∨ nI 13 ≤ x) (p : post 0) : wpX_isBit post x := by
  unfold wpX_isBit
  by_cases z : x < 0
  · exact br_t z p
  · exact br_f z (br_t (h.resolve_left z) p)
theorem sx_coL {post : Int32 → Prop} {w : Int32} (h : post (nI (sc_c (bt w) 13))) : ∀ d i, i + d = 13 → wX_countOnes_4 post w (d + 1) (nI (sc_c (bt w) i)) (nI i) := by
  intro d
  induction d with
  | zero =>
    intro i e
    have e : i = 13 := by omega
    subst e
    exact pk_le 13 13 (fun _ => h) (fun z => absurd z (by omega))
  | succ d ih =>
    intro i e
    refine pk_le 13 i (fun z => absurd z (by omega)) (fun _ => ?_)
    refine nm_r (e' := nI (sc_c (bt w) (i + 1))) ?_ (nm_r (nI_1 i) (ih (i + 1) (by omega)))
    rw [sc_bit w i (by omega), nI_add, sc_cs]
theorem sx_co {post : Int32 → Prop} {w : Int32} (h : post (nI (sc_c (bt w) 13))) : wpX_countOnes post w := by
  unfold wpX_countOnes
  exact ⟨14, sx_coL h 13 0 rfl⟩
theorem sx_loL {post : Int32 → Prop} {w : Int32} : ∀ d i, i + d = 13 → post (sc_f 13 (bt w) d i) → wX_lowestOne_2 post w (d + 1) (nI i) := by
  intro d
  induction d with
  | zero =>
    intro i e h
    have e : i = 13 := by omega
    subst e
    exact pk_le 13 13 (fun _ => h) (fun z => absurd z (by omega))
  | succ d ih =>
    intro i e h
    refine pk_le 13 i (fun z => absurd z (by omega)) (fun _ => ?_)
    cases hb : bt w i
    · rw [sc_ff hb] at h
      refine br_f ?_ (nm_r (nI_1 i) (ih (i + 1) (by omega) h))
      rw [sc_bit w i (by omega), hb]
      decide
    · rw [sc_ft hb] at h
      refine br_t ?_ h
      rw [sc_bit w i (by omega), hb]
      rfl
theorem sx_lo {post : Int32 → Prop} {w : Int32} (h : post (sc_f 13 (bt w) 13 0)) : wpX_lowestOne post w := by
  unfold wpX_lowestOne
  exact ⟨14, sx_loL 13 0 rfl h⟩
theorem sc_oF {w : Int32} {c i : Nat} (h : i &&& c = 0) : sc_o w c i = false := by
  unfold sc_o
  rw [h]
  rfl
theorem sc_oT {w : Int32} {c i : Nat} (h : ¬ i &&& c = 0) : sc_o w c i = bt w i := by
  unfold sc_o
  rw [decide_eq_true h, Bool.true_and]
theorem sc_g1 (w : Int32) (c : Nat) : sc_c (sc_o w c) 1 = 0 := sc_cF (n := 0) (sc_oF (Nat.zero_and c))
theorem sx_ogL {post : Int32 → Prop} {w : Int32} {c : Nat} (hc : c < 2 ^ 31) (h1 : sc_g w c % 2 = 1 → post 1) (h0 : sc_g w c % 2 = 0 → post 0) : ∀ d i, i + d = 13 → wX_oddGroup_4 post w (nI c) (d + 1) (nI (sc_c (sc_o w c) i)) (nI i) := by
  intro d
  induction d with
  | zero =>
    intro i e
    have e : i = 13 := by omega
    subst e
    refine pk_le 13 13 (fun _ => ?_) (fun z => absurd z (by omega))
    have hl := sc_cle (sc_o w c) 13
    have hb : sc_g w c % 2 < 2 := Nat.mod_lt _ (by omega)
    refine pk_eq (sc_g w c % 2) 1 (fun z => h1 z) (fun z => h0 (by omega)) (sc_od _ (by omega)) rfl
  | succ d ih =>
    intro i e
    refine pk_le 13 i (fun z => absurd z (by omega)) (fun _ => ?_)
    have hl : i &&& c ≤ i := Nat.and_le_left
    refine pk_eq (i &&& c) 0 (fun z => ?_) (fun z => ?_) (nx_and i c) rfl
    · have k := ih (i + 1) (by omega)
      rw [sc_cF (sc_oF z)] at k
      exact nm_r (nI_1 i) k
    · have k := ih (i + 1) (by omega)
      refine nm_r (e' := nI (sc_c (sc_o w c) (i + 1))) ?_ (nm_r (nI_1 i) k)
      rw [sc_bit w i (by omega), nI_add, sc_cs, sc_oT z]
theorem sx_og {post : Int32 → Prop} {w : Int32} {c : Nat} (hc : c < 2 ^ 31) (h1 : sc_g w c % 2 = 1 → post 1) (h0 : sc_g w c % 2 = 0 → post 0) : wpX_oddGroup post w (nI c) := by
  unfold wpX_oddGroup
  refine ⟨13, ?_⟩
  have k := sx_ogL hc h1 h0 12 1 rfl
  rw [sc_g1] at k
  exact k
theorem sx_pl {post : Int32 → Prop} {v : Int32} (h : post (sc_pl v)) : wpX_placeByte post v := h
theorem sx_enE {post : Int32 → Prop} {w : Int32} {n : Nat} (h : post (sc_fin w)) : wX_encode_7 post (n + 1) w (nI 16) := by
  refine pk_le 13 16 (fun _ => ?_) (fun z => absurd z (by omega))
  refine sx_co ?_
  have hl := sc_cle (bt w) 13
  rw [sc_od _ (by omega)]
  unfold sc_fin at h
  rcases Nat.mod_two_eq_zero_or_one (sc_c (bt w) 13) with z | z
  · rw [z, if_neg (by omega)] at h
    rw [z, nI_0, Int32.or_zero]
    exact h
  · rw [if_pos z] at h
    rw [z]
    exact h
theorem sx_enS {post : Int32 → Prop} {w : Int32} {n : Nat} (c c2 : Nat) (m : Int32) (hc : c < 13) (hm : (1 : Int32) <<< (nI c &&& 31) = m) (h2 : nI c <<< ((1 : Int32) &&& 31) = nI c2) (h : wX_encode_7 post n (sc_st w c m) (nI c2)) : wX_encode_7 post (n + 1) w (nI c) := by
  refine pk_le 13 c (fun z => absurd z (by omega)) (fun _ => ?_)
  unfold sc_st at h
  refine sx_og (by omega) (fun z => ?_) (fun z => ?_)
  · rw [if_pos z] at h
    refine br_f (by decide) (nm_r (e' := w ||| m) (by rw [hm]) (nm_r h2 h))
  · rw [if_neg (by omega)] at h
    exact br_t rfl (nm_r h2 h)
theorem sx_en {post : Int32 → Prop} {v : Int32} (h : post (sc_fin (sc_e4 (sc_pl v)))) : wpX_encode post v := by
  unfold wpX_encode
  refine sx_pl ?_
  refine ⟨5, ?_⟩
  refine sx_enS 1 2 2 (by omega) (by decide) (by decide) ?_
  refine sx_enS 2 4 4 (by omega) (by decide) (by decide) ?_
  refine sx_enS 4 8 16 (by omega) (by decide) (by decide) ?_
  refine sx_enS 8 16 256 (by omega) (by decide) (by decide) ?_
  exact sx_enE h
theorem sx_cl {post : Int32 → Prop} {x : Int32} {r : Nat} (h : (x < 0 ∧ r = 0) ∨ (nI 33 ≤ x ∧ r = 32) ∨ (r < 33 ∧ x = nI r)) (p : post (nI r)) : wpX_clampCount post x := by
  unfold wpX_clampCount
  rcases h with ⟨a, rfl⟩ | ⟨a, rfl⟩ | ⟨a, rfl⟩
  · exact br_f (Int32.not_le.mpr a) p
  · exact br_t (Int32.le_trans (nI_pos' (n := 33) (by omega)) a) (br_f (Int32.not_le.mpr (sc_gt (n := 32) (by omega) a)) p)
  · exact br_t (nI_pos' (by omega)) (br_t (nI_le (b := 32) (by omega) (by omega)) p)
end
section
/-! the reference's own small methods -/
theorem sy_bi {post : Int32 → Prop} {H : Int32} {A C : Nat → Int32} {x : Int32} {i : Nat} (hi : i < 32) (h : post (nI (bt x i).toNat)) : wpY_bit post (H, A, C) x (nI i) := by
  unfold wpY_bit
  rw [sc_bit x i hi]
  exact h
theorem sy_wt {post : Int32 → Prop} {H : Int32} {A C : Nat → Int32} {w : Nat} (h : w < 16) (p : post 1) : wpY_isWord post (H, A, C) (nI w) := by
  unfold wpY_isWord
  exact br_f (nI_pos (by omega)) (br_f (nI_nlt (a := 15) (by omega) (by omega)) p)
theorem sy_wf {post : Int32 → Prop} {H : Int32} {A C : Nat → Int32} {x : Int32} (h : x < 0 ∨ nI 16 ≤ x) (p : post 0) : wpY_isWord post (H, A, C) x := by
  unfold wpY_isWord
  by_cases z : x < 0
  · exact br_t z p
  · exact br_f z (br_t (sc_gt (n := 15) (by omega) (h.resolve_left z)) p)
theorem sc_qs (k d n i : Nat) : sc_q k (d + 1) n i = if i = 1 ∨ i = 2 ∨ i = 4 ∨ i = 8 then sc_q k d n (i + 1) else if n = k then i else sc_q k d (n + 1) (i + 1) := rfl
theorem sy_poL {post : Int32 → Prop} {H : Int32} {A C : Nat → Int32} {k : Nat} (hk : k < 8) : ∀ d n i, i + d = 13 → n ≤ i → post (nI (sc_q k d n i)) → wY_placeOf_4 post (nI k) H A C (d + 1) (nI n) (nI i) := by
  intro d
  induction d with
  | zero =>
    intro n i e hn h
    have e : i = 13 := by omega
    subst e
    exact pk_lt 12 13 (fun _ => h) (fun z => absurd z (by omega))
  | succ d ih =>
    intro n i e hn h
    refine pk_lt 12 i (fun z => absurd z (by omega)) (fun _ => ?_)
    rw [sc_qs] at h
    refine pk_eq i 1 (fun z => ?_) (fun z1 => pk_eq i 2 (fun z => ?_) (fun z2 => pk_eq i 4 (fun z => ?_) (fun z4 => pk_eq i 8 (fun z => ?_) (fun z8 => pk_eq n k (fun z => ?_) (fun z => ?_)))))
    · rw [if_pos (by omega)] at h
      exact nm_r (nI_1 i) (ih n (i + 1) (by omega) (by omega) h)
    · rw [if_pos (by omega)] at h
      exact nm_r (nI_1 i) (ih n (i + 1) (by omega) (by omega) h)
    · rw [if_pos (by omega)] at h
      exact nm_r (nI_1 i) (ih n (i + 1) (by omega) (by omega) h)
    · rw [if_pos (by omega)] at h
      exact nm_r (nI_1 i) (ih n (i + 1) (by omega) (by omega) h)
    · rw [if_neg (by omega), if_pos z] at h
      exact h
    · rw [if_neg (by omega), if_neg z] at h
      exact nm_r (nI_1 n) (nm_r (nI_1 i) (ih (n + 1) (i + 1) (by omega) (by omega) h))
theorem sy_po {post : Int32 → Prop} {H : Int32} {A C : Nat → Int32} {k : Nat} (hk : k < 8) (h : post (nI (sc_p k))) : wpY_placeOf post (H, A, C) (nI k) := by
  unfold wpY_placeOf
  rw [← sc_qp k hk] at h
  exact ⟨13, sy_poL hk 12 0 1 rfl (by omega) h⟩
/-- what even counts -/
def sc_h (w : Int32) (c : Nat) : Nat → Bool := fun i => (decide (c = 0) || decide (¬ i &&& c = 0)) && bt w i
theorem sc_h0 (w : Int32) : sc_c (sc_h w 0) 13 = sc_c (bt w) 13 := by
  refine sc_cx 13 (fun i _ => ?_)
  unfold sc_h
  rw [decide_eq_true rfl, Bool.true_or, Bool.true_and]
theorem sc_hc (w : Int32) {c : Nat} (h : ¬ c = 0) : sc_c (sc_h w c) 13 = sc_g w c := by
  refine sc_cx 13 (fun i _ => ?_)
  unfold sc_h
  rw [decide_eq_false h, Bool.false_or]
  rfl
theorem sy_evL {post : Int32 → Prop} {H : Int32} {A C : Nat → Int32} {w : Int32} {c : Nat} (hc : c < 2 ^ 31) (h1 : sc_c (sc_h w c) 13 % 2 = 0 → post 1) (h0 : sc_c (sc_h w c) 13 % 2 = 1 → post 0) : ∀ d i, i + d = 13 → wY_even_5 post w (nI c) H A C (d + 1) (nI (sc_c (sc_h w c) i)) (nI i) := by
  intro d
  induction d with
  | zero =>
    intro i e
    have e : i = 13 := by omega
    subst e
    refine pk_lt 12 13 (fun _ => ?_) (fun z => absurd z (by omega))
    have hl := sc_cle (sc_h w c) 13
    have hb : sc_c (sc_h w c) 13 % 2 < 2 := Nat.mod_lt _ (by omega)
    refine ⟨by decide, pk_eq (sc_c (sc_h w c) 13 % 2) 0 h1 (fun z => h0 (by omega)) (pk_rem (d := 2) (by omega) (by omega) (by omega)) rfl⟩
  | succ d ih =>
    intro i e
    refine pk_lt 12 i (fun z => absurd z (by omega)) (fun _ => ?_)
    have k := ih (i + 1) (by omega)
    have hl : i &&& c ≤ i := Nat.and_le_left
    have add : sc_h w c i = bt w i → wY_even_23 post (wY_even_5 post w (nI c) H A C (d + 1)) w (nI c) (nI (sc_c (sc_h w c) i)) (nI i) H A C := by
      intro z
      refine sy_bi (by omega) (nm_r (e' := nI (sc_c (sc_h w c) (i + 1))) ?_ (nm_r (nI_1 i) k))
      rw [nI_add, sc_cs, z]
    refine pk_eq c 0 (fun z => ?_) (fun z => pk_eq (i &&& c) 0 (fun y => ?_) (fun y => ?_) (nx_and i c) rfl)
    · refine add ?_
      unfold sc_h
      rw [decide_eq_true z, Bool.true_or, Bool.true_and]
    · have q : sc_h w c i = false := by
        unfold sc_h
        rw [decide_eq_false z, y]
        rfl
      rw [sc_cF q] at k
      exact nm_r (nI_1 i) k
    · refine add ?_
      unfold sc_h
      rw [decide_eq_true y, Bool.or_true, Bool.true_and]
theorem sy_ev {post : Int32 → Prop} {H : Int32} {A C : Nat → Int32} {w : Int32} {c : Nat} (hc : c < 2 ^ 31) (h1 : sc_c (sc_h w c) 13 % 2 = 0 → post 1) (h0 : sc_c (sc_h w c) 13 % 2 = 1 → post 0) : wpY_even post (H, A, C) w (nI c) := by
  unfold wpY_even
  exact ⟨14, sy_evL hc h1 h0 13 0 rfl⟩
theorem sy_evS {H : Int32} {A C : Nat → Int32} {w : Int32} (c : Nat) (m : Int32) (hc : ¬ c = 0) (hd : c < 2 ^ 31) {k : Int32 → Prop} (h : k (sc_st w c m)) : wpY_even (fun r => (r = 0 → ∀ x, x = w ||| m → k x) ∧ (¬ r = 0 → k w)) (H, A, C) w (nI c) := by
  unfold sc_st at h
  refine sy_ev hd (fun z => ?_) (fun z => ?_)
  · rw [sc_hc w hc] at z
    rw [if_neg (by omega)] at h
    exact br_f (by decide) h
  · rw [sc_hc w hc] at z
    rw [if_pos z] at h
    exact br_t rfl (nm_e h)
theorem sy_co91 {post : Int32 → Prop} {H : Int32} {A C : Nat → Int32} {w : Int32} (h : post (sc_fin w)) : wY_codeOf_91 post w H A C := by
  unfold sc_fin at h
  unfold wY_codeOf_91
  refine sy_ev (c := 0) (by omega) (fun z => ?_) (fun z => ?_)
  · rw [sc_h0] at z
    rw [if_neg (by omega)] at h
    exact br_f (by decide) h
  · rw [sc_h0] at z
    rw [if_pos z] at h
    exact br_t rfl h
theorem sy_co75 {post : Int32 → Prop} {H : Int32} {A C : Nat → Int32} {w : Int32} (h : post (sc_fin (sc_st w 8 256))) : wY_codeOf_75 post w H A C := by
  unfold wY_codeOf_75
  exact sy_evS (k := fun x => wY_codeOf_91 post x H A C) 8 256 (by omega) (by omega) (sy_co91 h)
theorem sy_co61 {post : Int32 → Prop} {H : Int32} {A C : Nat → Int32} {w : Int32} (h : post (sc_fin (sc_st (sc_st w 4 16) 8 256))) : wY_codeOf_61 post w H A C := by
  unfold wY_codeOf_61
  exact sy_evS (k := fun x => wY_codeOf_75 post x H A C) 4 16 (by omega) (by omega) (sy_co75 h)
theorem sy_co48 {post : Int32 → Prop} {H : Int32} {A C : Nat → Int32} {w : Int32} (h : post (sc_fin (sc_st (sc_st (sc_st w 2 4) 4 16) 8 256))) : wY_codeOf_48 post w H A C := by
  unfold wY_codeOf_48
  exact sy_evS (k := fun x => wY_codeOf_61 post x H A C) 2 4 (by omega) (by omega) (sy_co61 h)
theorem sy_coL {post : Int32 → Prop} {H : Int32} {A C : Nat → Int32} {v : Nat} (hv : v < 256) (h : post (sc_C v)) : ∀ d i, i + d = 8 → wY_codeOf_4 post (nI v) H A C (d + 1) (sc_y (nI v) i) (nI i) := by
  intro d
  induction d with
  | zero =>
    intro i e
    have e : i = 8 := by omega
    subst e
    refine pk_le 8 8 (fun _ => ?_) (fun z => absurd z (by omega))
    rw [sc_yp v hv]
    exact sy_evS (k := fun x => wY_codeOf_48 post x H A C) 1 2 (by omega) (by omega) (sy_co48 h)
  | succ d ih =>
    intro i e
    refine pk_le 8 i (fun z => absurd z (by omega)) (fun _ => ?_)
    exact sy_po (by omega) (sy_bi (by omega) (nm_r (sc_ys (nI v) i).symm (nm_r (nI_1 i) (ih (i + 1) (by omega)))))
theorem sy_co {post : Int32 → Prop} {H : Int32} {A C : Nat → Int32} {v : Nat} (hv : v < 256) (h : post (sc_C v)) : wpY_codeOf post (H, A, C) (nI v) := by
  unfold wpY_codeOf
  exact ⟨9, sy_coL hv h 8 0 rfl⟩
end
section
/-! the component's methods over its state (H, A, C) -/
theorem sx_soL {post : Int32 → Prop} {x H : Int32} {A C : Nat → Int32} : ∀ d j, j + d = 256 → post (sc_f (-2) (sc_vf C x) d j) → wX_soundByte_2 post x H A C (d + 1) (nI j) := by
  intro d
  induction d with
  | zero =>
    intro j e h
    have e : j = 256 := by omega
    subst e
    exact pk_le 256 256 (fun _ => h) (fun z => absurd z (by omega))
  | succ d ih =>
    intro j e h
    refine pk_le 256 j (fun z => absurd z (by omega)) (fun _ => ⟨vp_in_nI (by omega) (by omega), ?_⟩)
    rw [nI_clamp (show j < 2 ^ 31 by omega)]
    have hb := sc_dle x (C j)
    refine sx_co (pk_lt 1 (sc_d x (C j)) (fun z => ?_) (fun z => ?_))
    · rw [sc_ff (sc_vff z)] at h
      exact nm_r (nI_1 j) (ih (j + 1) (by omega) h)
    · rw [sc_ft (sc_vft z)] at h
      exact h
theorem sx_so {post : Int32 → Prop} {x H : Int32} {A C : Nat → Int32} (h : post (sc_v C x)) : wpX_soundByte post (H, A, C) x := by
  unfold wpX_soundByte
  exact ⟨257, sx_soL 256 0 rfl h⟩
theorem sx_me {post : Int32 → SX → Prop} {H : Int32} {A C : Nat → Int32} {w : Nat} (hw : w < 16) (h : post (sc_m C A w).1 (H, (sc_m C A w).2, C)) : wpX_mend post (H, A, C) (nI w) := by
  unfold wpX_mend
  dsimp only
  refine ⟨vp_in_nI hw (by omega), ?_⟩
  rw [nI_clamp (show w < 2 ^ 31 by omega)]
  refine sx_so ?_
  rcases sc_vr C (A w) with z | ⟨v, hv, z⟩
  · rw [sc_m2 z] at h
    rw [z]
    exact br_t rfl h
  · rw [sc_mv hv z] at h
    rw [z]
    refine br_f (sc_n2 hv) ⟨vp_in_nI hw (by omega), vp_in_nI hv (by omega), nm_e ⟨vp_in_nI hv (by omega), vp_in_nI hw (by omega), nm_e ?_⟩⟩
    rw [nI_clamp (show v < 2 ^ 31 by omega)]
    exact sx_lo h
theorem sx_ib {post : Int32 → Prop} {x : Int32} (h1 : sc_ib x = true → post 1) (h0 : sc_ib x = false → post 0) : wpX_isBit post x := by
  by_cases a : x < 0
  · exact sx_if (Or.inl a) (h0 (decide_eq_false (fun z => absurd a (Int32.not_lt.mpr z.1))))
  · by_cases b : nI 13 ≤ x
    · exact sx_if (Or.inr b) (h0 (decide_eq_false (fun z => absurd z.2 (Int32.not_lt.mpr b))))
    · obtain ⟨j, hj, rfl⟩ := nI_of a
      rw [nI_leI (by omega) hj] at b
      exact sx_it (by omega) (h1 (decide_eq_true ⟨nI_pos' hj, nI_lt (b := 13) (by omega) (by decide)⟩))
theorem sx_scL {post : Int32 → SX → Prop} {C : Nat → Int32} {R : Nat} (hR : R ≤ 32) : ∀ d t h A i, h < 16 → i + d = R → post (nI (sc_s C d t h A).1) (nI (sc_s C d t h A).2.1, (sc_s C d t h A).2.2, C) → wX_scrub_10 post (nI R) (d + 1) (nI t) (nI i) (nI h) A C := by
  intro d
  induction d with
  | zero =>
    intro t h A i hh e p
    have e : i = R := by omega
    subst e
    exact pk_le i i (fun _ => p) (fun z => absurd z (by omega))
  | succ d ih =>
    intro t h A i hh e p
    rw [sc_ss] at p
    refine pk_le R i (fun z => absurd z (by omega)) (fun _ => ?_)
    refine sx_me hh ?_
    have q : (nI h + 1) - (nI h + 1) / 16 * 16 = nI ((h + 1) % 16) := by
      rw [nI_1]
      exact pk_rem (d := 16) (by omega) (by omega) (by omega)
    have k := ih _ _ _ (i + 1) (Nat.mod_lt _ (by omega)) (by omega) p
    have j : ∀ y : Nat, wX_scrub_10 post (nI R) (d + 1) (nI y) (nI (i + 1)) (nI ((h + 1) % 16)) (sc_m C A h).2 C → wX_scrub_37 post (wX_scrub_10 post (nI R) (d + 1)) (nI R) (nI y) (nI i) (nI h) (sc_m C A h).2 C := fun y z => ⟨by decide, nm_r q (nm_r (nI_1 i) z)⟩
    refine sx_ib (fun z => ?_) (fun z => ?_)
    · rw [z] at k
      exact br_f (by decide) (nm_r (nI_1 t) (j (t + 1) k))
    · rw [z] at k
      exact br_t rfl (j t k)
theorem sx_sc {post : Int32 → SX → Prop} {C A : Nat → Int32} {x : Int32} {r h : Nat} (hh : h < 16) (hr : r ≤ 32) (hx : (x < 0 ∧ r = 0) ∨ (nI 33 ≤ x ∧ r = 32) ∨ (r < 33 ∧ x = nI r)) (p : post (nI (sc_s C r 0 h A).1) (nI (sc_s C r 0 h A).2.1, (sc_s C r 0 h A).2.2, C)) : wpX_scrub post (nI h, A, C) x := by
  unfold wpX_scrub
  exact sx_cl hx ⟨r + 1, sx_scL hr r 0 h A 0 hh (by omega) p⟩
theorem sx_inW {post : SX → Prop} {H : Int32} {C : Nat → Int32} (h : post (H, sc_T (fun _ => C 0) 16, C)) : ∀ d i, i + d = 16 → wX_init_53 post H (d + 1) (nI i) (sc_T (fun _ => C 0) i) C := by
  intro d
  induction d with
  | zero =>
    intro i e
    have e : i = 16 := by omega
    subst e
    exact pk_le 16 16 (fun _ => h) (fun z => absurd z (by omega))
  | succ d ih =>
    intro i e
    refine pk_le 16 i (fun z => absurd z (by omega)) (fun _ => ⟨vp_in_nI (by omega) (by omega), ?_⟩)
    rw [nI_clamp (show i < 2 ^ 31 by omega)]
    exact nm_r (sc_Ts (fun _ => C 0) i) (nm_r (nI_1 i) (ih (i + 1) (by omega)))
theorem sx_inC {post : SX → Prop} {H : Int32} (h : post (H, sc_T (fun _ => sc_T sc_C 256 0) 16, sc_T sc_C 256)) : ∀ d i, i + d = 256 → wX_init_28 post H (d + 1) (nI i) (fun _ => 0) (sc_T sc_C i) := by
  intro d
  induction d with
  | zero =>
    intro i e
    have e : i = 256 := by omega
    subst e
    refine pk_le 256 256 (fun _ => ⟨17, ?_⟩) (fun z => absurd z (by omega))
    have k := sx_inW h 16 0 rfl
    rw [sc_T0] at k
    exact k
  | succ d ih =>
    intro i e
    refine pk_le 256 i (fun z => absurd z (by omega)) (fun _ => ?_)
    refine sx_en ⟨vp_in_nI (by omega) (by omega), ?_⟩
    rw [nI_clamp (show i < 2 ^ 31 by omega)]
    exact nm_r (sc_Ts sc_C i) (nm_r (nI_1 i) (ih (i + 1) (by omega)))
theorem sx_in {post : SX → Prop} (h : post (0, sc_T (fun _ => sc_T sc_C 256 0) 16, sc_T sc_C 256)) : wpX_init post := by
  unfold wpX_init
  have k := sx_inC h 256 0 rfl
  rw [sc_T0] at k
  exact ⟨257, k⟩
end
section
/-! the reference's methods over its state (H, A, C) -/
theorem sy_apL {post : Int32 → Prop} {x y H : Int32} {A C : Nat → Int32} (h : post (nI (sc_d x y))) : ∀ d i, i + d = 13 → wY_apart_5 post x y H A C (d + 1) (nI (sc_c (bt (x ^^^ y)) i)) (nI i) := by
  intro d
  induction d with
  | zero =>
    intro i e
    have e : i = 13 := by omega
    subst e
    exact pk_lt 12 13 (fun _ => h) (fun z => absurd z (by omega))
  | succ d ih =>
    intro i e
    refine pk_lt 12 i (fun z => absurd z (by omega)) (fun _ => ?_)
    have k := ih (i + 1) (by omega)
    refine sy_bi (by omega) (sy_bi (by omega) ?_)
    cases z : (bt x i ^^ bt y i)
    · rw [sc_cF ((b_xor x y i).trans z)] at k
      exact br_t ((sc_b2 _ _).mpr z) (nm_r (nI_1 i) k)
    · rw [sc_cT ((b_xor x y i).trans z)] at k
      refine br_f (fun e => ?_) (nm_r (nI_1 _) (nm_r (nI_1 i) k))
      rw [(sc_b2 _ _).mp e] at z
      exact absurd z (by decide)
theorem sy_ap {post : Int32 → Prop} {x y H : Int32} {A C : Nat → Int32} (h : post (nI (sc_d x y))) : wpY_apart post (H, A, C) x y := by
  unfold wpY_apart
  exact ⟨14, sy_apL h 13 0 rfl⟩
theorem sy_reL {post : Int32 → Prop} {H : Int32} {A C : Nat → Int32} {w : Nat} (hw : w < 16) : ∀ d j, j + d = 256 → post (sc_f (-2) (sc_vf C (A w)) d j) → wY_read_12 post (nI w) H A C (d + 1) (nI j) := by
  intro d
  induction d with
  | zero =>
    intro j e h
    have e : j = 256 := by omega
    subst e
    exact pk_le 256 256 (fun _ => h) (fun z => absurd z (by omega))
  | succ d ih =>
    intro j e h
    refine pk_le 256 j (fun z => absurd z (by omega)) (fun _ => ⟨vp_in_nI hw (by omega), vp_in_nI (by omega) (by omega), ?_⟩)
    rw [nI_clamp (show j < 2 ^ 31 by omega), nI_clamp (show w < 2 ^ 31 by omega)]
    have hb := sc_dle (A w) (C j)
    refine sy_ap (pk_lt 1 (sc_d (A w) (C j)) (fun z => ?_) (fun z => ?_))
    · rw [sc_ff (sc_vff z)] at h
      exact nm_r (nI_1 j) (ih (j + 1) (by omega) h)
    · rw [sc_ft (sc_vft z)] at h
      exact h
theorem sy_re {post : Int32 → Prop} {H : Int32} {A C : Nat → Int32} {w : Nat} (hw : w < 16) (h : post (sc_v C (A w))) : wpY_read post (H, A, C) (nI w) := by
  unfold wpY_read
  dsimp only
  refine sy_wt hw (br_f (by decide) ⟨257, sy_reL hw 256 0 rfl h⟩)
theorem sy_rf {post : Int32 → Prop} {H x : Int32} {A C : Nat → Int32} (hx : x < 0 ∨ nI 16 ≤ x) (h : post (-1)) : wpY_read post (H, A, C) x := by
  unfold wpY_read
  dsimp only
  exact sy_wf hx (br_t rfl h)
theorem sy_rpL {post : Int32 → SY → Prop} {x H : Int32} {A C : Nat → Int32} {w : Nat} (hw : w < 16) : ∀ d i, i + d = 13 → post (sc_f 13 (bt (x ^^^ A w)) d i) (H, A, C) → wY_repair_34 post (nI w) x H A C (d + 1) (nI i) := by
  intro d
  induction d with
  | zero =>
    intro i e h
    have e : i = 13 := by omega
    subst e
    exact pk_lt 12 13 (fun _ => h) (fun z => absurd z (by omega))
  | succ d ih =>
    intro i e h
    refine pk_lt 12 i (fun z => absurd z (by omega)) (fun _ => ?_)
    refine sy_bi (by omega) ⟨vp_in_nI hw (by omega), ?_⟩
    rw [nI_clamp (show w < 2 ^ 31 by omega)]
    refine sy_bi (by omega) ?_
    cases z : (bt x i ^^ bt (A w) i)
    · rw [sc_ff ((b_xor x (A w) i).trans z)] at h
      exact br_t ((sc_b2 _ _).mpr z) (nm_r (nI_1 i) (ih (i + 1) (by omega) h))
    · rw [sc_ft ((b_xor x (A w) i).trans z)] at h
      refine br_f (fun e => ?_) h
      rw [(sc_b2 _ _).mp e] at z
      exact absurd z (by decide)
theorem sy_rp {post : Int32 → SY → Prop} {H : Int32} {A C : Nat → Int32} {w : Nat} (hw : w < 16) (h : post (sc_m C A w).1 (H, (sc_m C A w).2, C)) : wpY_repair post (H, A, C) (nI w) := by
  unfold wpY_repair
  dsimp only
  refine sy_re hw ?_
  rcases sc_vr C (A w) with z | ⟨v, hv, z⟩
  · rw [sc_m2 z] at h
    rw [z]
    exact br_f (by decide) h
  · rw [sc_mv hv z] at h
    rw [z]
    refine br_t (nI_pos' (by omega)) ⟨vp_in_nI hw (by omega), nm_e ⟨vp_in_nI hv (by omega), vp_in_nI hw (by omega), nm_e ⟨14, ?_⟩⟩⟩
    rw [nI_clamp (show v < 2 ^ 31 by omega), nI_clamp (show w < 2 ^ 31 by omega)]
    refine sy_rpL hw 13 0 rfl ?_
    rw [pk_us]
    exact h
theorem sy_rb {post : Int32 → SY → Prop} {H x : Int32} {A C : Nat → Int32} (hx : x < 0 ∨ nI 16 ≤ x) (h : post (-1) (H, A, C)) : wpY_repair post (H, A, C) x := by
  unfold wpY_repair
  dsimp only
  exact sy_rf hx (br_f (by decide) h)
theorem sy_scL {post : Int32 → SY → Prop} {C : Nat → Int32} {R : Nat} (hR : R ≤ 32) : ∀ d t h A i, h < 16 → i + d = R → post (nI (sc_s C d t h A).1) (nI (sc_s C d t h A).2.1, (sc_s C d t h A).2.2, C) → wY_scrub_26 post (nI R) (d + 1) (nI t) (nI i) (nI h) A C := by
  intro d
  induction d with
  | zero =>
    intro t h A i hh e p
    have e : i = R := by omega
    subst e
    exact pk_le i i (fun _ => p) (fun z => absurd z (by omega))
  | succ d ih =>
    intro t h A i hh e p
    rw [sc_ss] at p
    refine pk_le R i (fun z => absurd z (by omega)) (fun _ => ?_)
    refine sy_rp hh ?_
    have q : (nI h + 1) - (nI h + 1) / 16 * 16 = nI ((h + 1) % 16) := by
      rw [nI_1]
      exact pk_rem (d := 16) (by omega) (by omega) (by omega)
    have k := ih _ _ _ (i + 1) (Nat.mod_lt _ (by omega)) (by omega) p
    have j : ∀ y : Nat, wY_scrub_26 post (nI R) (d + 1) (nI y) (nI (i + 1)) (nI ((h + 1) % 16)) (sc_m C A h).2 C → wY_scrub_57 post (wY_scrub_26 post (nI R) (d + 1)) (nI R) (nI y) (nI i) (nI h) (sc_m C A h).2 C := fun y z => ⟨by decide, nm_r q (nm_r (nI_1 i) z)⟩
    by_cases a : (sc_m C A h).1 < 0
    · rw [show sc_ib (sc_m C A h).1 = false from decide_eq_false (fun z => absurd a (Int32.not_lt.mpr z.1))] at k
      exact br_t a (j t k)
    · by_cases b : 12 < (sc_m C A h).1
      · rw [show sc_ib (sc_m C A h).1 = false from decide_eq_false (fun z => absurd b (Int32.not_lt.mpr ((sc_12 _).mpr z.2)))] at k
        exact br_f a (br_t b (j t k))
      · rw [show sc_ib (sc_m C A h).1 = true from decide_eq_true ⟨Int32.not_lt.mp a, (sc_12 _).mp (Int32.not_lt.mp b)⟩] at k
        exact br_f a (br_f b (nm_r (nI_1 t) (j (t + 1) k)))
theorem sy_sc {post : Int32 → SY → Prop} {C A : Nat → Int32} {x : Int32} {r h : Nat} (hh : h < 16) (hr : r ≤ 32) (hx : (x < 0 ∧ r = 0) ∨ (nI 33 ≤ x ∧ r = 32) ∨ (r < 33 ∧ x = nI r)) (p : post (nI (sc_s C r 0 h A).1) (nI (sc_s C r 0 h A).2.1, (sc_s C r 0 h A).2.2, C)) : wpY_scrub post (nI h, A, C) x := by
  unfold wpY_scrub
  have k := sy_scL hr r 0 h A 0 hh (by omega) p
  rcases hx with ⟨a, rfl⟩ | ⟨a, rfl⟩ | ⟨a, rfl⟩
  · exact br_f (Int32.not_le.mpr a) ⟨_, k⟩
  · exact br_t (Int32.le_trans (nI_pos' (n := 33) (by omega)) a) (br_f (Int32.not_le.mpr (sc_gt (n := 32) (by omega) a)) ⟨_, k⟩)
  · exact br_t (nI_pos' (by omega)) (br_t (nI_le (b := 32) (by omega) (by omega)) ⟨_, k⟩)
theorem sy_inW {post : SY → Prop} {H : Int32} {C : Nat → Int32} (h : post (H, sc_T (fun _ => C 0) 16, C)) : ∀ d i, i + d = 16 → wY_init_54 post H (d + 1) (nI i) (sc_T (fun _ => C 0) i) C := by
  intro d
  induction d with
  | zero =>
    intro i e
    have e : i = 16 := by omega
    subst e
    exact pk_le 16 16 (fun _ => h) (fun z => absurd z (by omega))
  | succ d ih =>
    intro i e
    refine pk_le 16 i (fun z => absurd z (by omega)) (fun _ => ⟨vp_in_nI (by omega) (by omega), ?_⟩)
    rw [nI_clamp (show i < 2 ^ 31 by omega)]
    exact nm_r (sc_Ts (fun _ => C 0) i) (nm_r (nI_1 i) (ih (i + 1) (by omega)))
theorem sy_inC {post : SY → Prop} {H : Int32} (h : post (H, sc_T (fun _ => sc_T sc_C 256 0) 16, sc_T sc_C 256)) : ∀ d i, i + d = 256 → wY_init_28 post H (d + 1) (nI i) (fun _ => 0) (sc_T sc_C i) := by
  intro d
  induction d with
  | zero =>
    intro i e
    have e : i = 256 := by omega
    subst e
    refine pk_le 256 256 (fun _ => ⟨17, ?_⟩) (fun z => absurd z (by omega))
    have k := sy_inW h 16 0 rfl
    rw [sc_T0] at k
    exact k
  | succ d ih =>
    intro i e
    refine pk_le 256 i (fun z => absurd z (by omega)) (fun _ => ?_)
    refine sy_co (by omega) ⟨vp_in_nI (by omega) (by omega), ?_⟩
    rw [nI_clamp (show i < 2 ^ 31 by omega)]
    exact nm_r (sc_Ts sc_C i) (nm_r (nI_1 i) (ih (i + 1) (by omega)))
theorem sy_in {post : SY → Prop} (h : post (0, sc_T (fun _ => sc_T sc_C 256 0) 16, sc_T sc_C 256)) : wpY_init post := by
  unfold wpY_init
  have k := sy_inC h 256 0 rfl
  rw [sc_T0] at k
  exact ⟨257, k⟩
end
section
/-! counting loops of both sides, the nearest, mixing -/
def sc_bf (C A : Nat → Int32) : Nat → Bool := fun w => decide (sc_v C (A w) = -2)
def sc_mf (C A : Nat → Int32) : Nat → Bool := fun w => decide (¬ sc_v C (A w) = -2 ∧ ¬ A w = C (sc_v C (A w)).toNatClampNeg)
theorem sc_mf2 {C A : Nat → Int32} {w : Nat} (z : sc_v C (A w) = -2) : sc_mf C A w = false := decide_eq_false (fun h => h.1 z)
theorem sc_mfF {C A : Nat → Int32} {w v : Nat} (hv : v < 256) (z : sc_v C (A w) = nI v) (e : A w = C v) : sc_mf C A w = false := by
  refine decide_eq_false (fun h => h.2 ?_)
  rw [z, nI_clamp (by omega)]
  exact e
theorem sc_mfT {C A : Nat → Int32} {w v : Nat} (hv : v < 256) (z : sc_v C (A w) = nI v) (e : ¬ A w = C v) : sc_mf C A w = true := by
  refine decide_eq_true ⟨by rw [z]; exact sc_n2 hv, ?_⟩
  rw [z, nI_clamp (by omega)]
  exact e
theorem sx_brL {post : Int32 → Prop} {H : Int32} {A C : Nat → Int32} (h : post (nI (sc_c (sc_bf C A) 16))) : ∀ d i, i + d = 16 → wX_broken_4 post H A C (d + 1) (nI (sc_c (sc_bf C A) i)) (nI i) := by
  intro d
  induction d with
  | zero =>
    intro i e
    have e : i = 16 := by omega
    subst e
    exact pk_le 16 16 (fun _ => h) (fun z => absurd z (by omega))
  | succ d ih =>
    intro i e
    refine pk_le 16 i (fun z => absurd z (by omega)) (fun _ => ⟨vp_in_nI (by omega) (by omega), ?_⟩)
    have k := ih (i + 1) (by omega)
    rw [nI_clamp (show i < 2 ^ 31 by omega)]
    refine sx_so ?_
    by_cases z : sc_v C (A i) = -2
    · rw [sc_cT (show sc_bf C A i = true from decide_eq_true z)] at k
      exact br_t z (nm_r (nI_1 _) (nm_r (nI_1 i) k))
    · rw [sc_cF (show sc_bf C A i = false from decide_eq_false z)] at k
      exact br_f z (nm_r (nI_1 i) k)
theorem sx_br {post : Int32 → Prop} {H : Int32} {A C : Nat → Int32} (h : post (nI (sc_c (sc_bf C A) 16))) : wpX_broken post (H, A, C) := by
  unfold wpX_broken
  exact ⟨17, sx_brL h 16 0 rfl⟩
theorem sy_brL {post : Int32 → Prop} {H : Int32} {A C : Nat → Int32} (h : post (nI (sc_c (sc_bf C A) 16))) : ∀ d i, i + d = 16 → wY_broken_4 post H A C (d + 1) (nI (sc_c (sc_bf C A) i)) (nI i) := by
  intro d
  induction d with
  | zero =>
    intro i e
    have e : i = 16 := by omega
    subst e
    exact pk_le 16 16 (fun _ => h) (fun z => absurd z (by omega))
  | succ d ih =>
    intro i e
    refine pk_le 16 i (fun z => absurd z (by omega)) (fun _ => ?_)
    have k := ih (i + 1) (by omega)
    refine sy_re (by omega) ?_
    by_cases z : sc_v C (A i) = -2
    · rw [sc_cT (show sc_bf C A i = true from decide_eq_true z)] at k
      exact br_t z (nm_r (nI_1 _) (nm_r (nI_1 i) k))
    · rw [sc_cF (show sc_bf C A i = false from decide_eq_false z)] at k
      exact br_f z (nm_r (nI_1 i) k)
theorem sy_br {post : Int32 → Prop} {H : Int32} {A C : Nat → Int32} (h : post (nI (sc_c (sc_bf C A) 16))) : wpY_broken post (H, A, C) := by
  unfold wpY_broken
  exact ⟨17, sy_brL h 16 0 rfl⟩
theorem sx_maL {post : Int32 → Prop} {H : Int32} {A C : Nat → Int32} (h : post (nI (sc_c (sc_mf C A) 16))) : ∀ d i, i + d = 16 → wX_marred_4 post H A C (d + 1) (nI (sc_c (sc_mf C A) i)) (nI i) := by
  intro d
  induction d with
  | zero =>
    intro i e
    have e : i = 16 := by omega
    subst e
    exact pk_le 16 16 (fun _ => h) (fun z => absurd z (by omega))
  | succ d ih =>
    intro i e
    refine pk_le 16 i (fun z => absurd z (by omega)) (fun _ => ⟨vp_in_nI (by omega) (by omega), ?_⟩)
    have k := ih (i + 1) (by omega)
    rw [nI_clamp (show i < 2 ^ 31 by omega)]
    refine sx_so ?_
    rcases sc_vr C (A i) with z | ⟨v, hv, z⟩
    · rw [sc_cF (sc_mf2 z)] at k
      exact br_t z (nm_r (nI_1 i) k)
    · rw [z]
      refine br_f (sc_n2 hv) ⟨vp_in_nI (by omega) (by omega), vp_in_nI hv (by omega), ?_⟩
      rw [nI_clamp (show v < 2 ^ 31 by omega)]
      by_cases y : A i = C v
      · rw [sc_cF (sc_mfF hv z y)] at k
        exact br_t y (nm_r (nI_1 i) k)
      · rw [sc_cT (sc_mfT hv z y)] at k
        exact br_f y (nm_r (nI_1 _) (nm_r (nI_1 i) k))
theorem sx_ma {post : Int32 → Prop} {H : Int32} {A C : Nat → Int32} (h : post (nI (sc_c (sc_mf C A) 16))) : wpX_marred post (H, A, C) := by
  unfold wpX_marred
  exact ⟨17, sx_maL h 16 0 rfl⟩
theorem sy_maL {post : Int32 → Prop} {H : Int32} {A C : Nat → Int32} (h : post (nI (sc_c (sc_mf C A) 16))) : ∀ d i, i + d = 16 → wY_marred_4 post H A C (d + 1) (nI (sc_c (sc_mf C A) i)) (nI i) := by
  intro d
  induction d with
  | zero =>
    intro i e
    have e : i = 16 := by omega
    subst e
    exact pk_le 16 16 (fun _ => h) (fun z => absurd z (by omega))
  | succ d ih =>
    intro i e
    refine pk_le 16 i (fun z => absurd z (by omega)) (fun _ => ?_)
    have k := ih (i + 1) (by omega)
    refine sy_re (by omega) ?_
    rcases sc_vr C (A i) with z | ⟨v, hv, z⟩
    · rw [sc_cF (sc_mf2 z)] at k
      rw [z]
      exact br_t (by decide) (nm_r (nI_1 i) k)
    · rw [z]
      refine br_f (nI_pos (by omega)) ⟨vp_in_nI (by omega) (by omega), vp_in_nI hv (by omega), ?_⟩
      rw [nI_clamp (show v < 2 ^ 31 by omega), nI_clamp (show i < 2 ^ 31 by omega)]
      by_cases y : A i = C v
      · rw [sc_cF (sc_mfF hv z y)] at k
        exact br_t y (nm_r (nI_1 i) k)
      · rw [sc_cT (sc_mfT hv z y)] at k
        exact br_f y (nm_r (nI_1 _) (nm_r (nI_1 i) k))
theorem sy_ma {post : Int32 → Prop} {H : Int32} {A C : Nat → Int32} (h : post (nI (sc_c (sc_mf C A) 16))) : wpY_marred post (H, A, C) := by
  unfold wpY_marred
  exact ⟨17, sy_maL h 16 0 rfl⟩
/-- the distances of word x, byte by byte -/
def sc_df (C : Nat → Int32) (x : Int32) : Nat → Nat := fun v => sc_d x (C v)
theorem sx_neL {post : Int32 → Prop} {H : Int32} {A C : Nat → Int32} {w : Nat} (hw : w < 16) : ∀ d j l t, j + d = 256 → l ≤ 14 → post (nI (sc_n (sc_df C (A w)) d j (l, t)).1 * 1000 + nI (sc_n (sc_df C (A w)) d j (l, t)).2) → wX_nearest_17 post (nI w) H A C (d + 1) (nI l) (nI t) (nI j) := by
  intro d
  induction d with
  | zero =>
    intro j l t e hl h
    have e : j = 256 := by omega
    subst e
    exact pk_le 256 256 (fun _ => h) (fun z => absurd z (by omega))
  | succ d ih =>
    intro j l t e hl h
    refine pk_le 256 j (fun z => absurd z (by omega)) (fun _ => ⟨vp_in_nI hw (by omega), vp_in_nI (by omega) (by omega), ?_⟩)
    rw [nI_clamp (show j < 2 ^ 31 by omega), nI_clamp (show w < 2 ^ 31 by omega)]
    have hb := sc_dle (A w) (C j)
    rw [sc_ns] at h
    refine sx_co ?_
    rcases Nat.lt_trichotomy (sc_df C (A w) j) l with z | z | z
    · rw [sc_n1a z] at h
      exact pk_le l (sc_d (A w) (C j)) (fun y => absurd z (Nat.not_lt.mpr y)) (fun _ => pk_eq (sc_d (A w) (C j)) (sc_d (A w) (C j)) (fun _ => nm_r (nI_1 0) (nm_r (nI_1 j) (ih (j + 1) (sc_d (A w) (C j)) 1 (by omega) (by omega) h))) (fun y => absurd rfl y))
    · rw [z, sc_n1b] at h
      exact pk_le l (sc_d (A w) (C j)) (fun y => pk_eq (sc_d (A w) (C j)) l (fun _ => nm_r (nI_1 t) (nm_r (nI_1 j) (ih (j + 1) _ _ (by omega) (by omega) h))) (fun y => absurd z y)) (fun y => absurd z (Nat.ne_of_lt y))
    · rw [sc_n1c z] at h
      exact pk_le l (sc_d (A w) (C j)) (fun y => pk_eq (sc_d (A w) (C j)) l (fun y => absurd y.symm (Nat.ne_of_lt z)) (fun _ => nm_r (nI_1 j) (ih (j + 1) _ _ (by omega) (by omega) h))) (fun y => absurd z (Nat.lt_asymm y))
theorem sy_neL {post : Int32 → Prop} {H : Int32} {A C : Nat → Int32} {w : Nat} (hw : w < 16) : ∀ d j l t, j + d = 256 → l ≤ 14 → post (1000 * nI (sc_n (sc_df C (A w)) d j (l, t)).1 + nI (sc_n (sc_df C (A w)) d j (l, t)).2) → wY_nearest_18 post (nI w) H A C (d + 1) (nI l) (nI t) (nI j) := by
  intro d
  induction d with
  | zero =>
    intro j l t e hl h
    have e : j = 256 := by omega
    subst e
    exact pk_le 256 256 (fun _ => h) (fun z => absurd z (by omega))
  | succ d ih =>
    intro j l t e hl h
    refine pk_le 256 j (fun z => absurd z (by omega)) (fun _ => ⟨vp_in_nI hw (by omega), vp_in_nI (by omega) (by omega), ?_⟩)
    rw [nI_clamp (show j < 2 ^ 31 by omega), nI_clamp (show w < 2 ^ 31 by omega)]
    have hb := sc_dle (A w) (C j)
    rw [sc_ns] at h
    refine sy_ap ?_
    rcases Nat.lt_trichotomy (sc_df C (A w) j) l with z | z | z
    · rw [sc_n1a z] at h
      exact pk_le l (sc_d (A w) (C j)) (fun y => absurd z (Nat.not_lt.mpr y)) (fun _ => pk_eq (sc_d (A w) (C j)) (sc_d (A w) (C j)) (fun _ => nm_r (nI_1 0) (nm_r (nI_1 j) (ih (j + 1) (sc_d (A w) (C j)) 1 (by omega) (by omega) h))) (fun y => absurd rfl y))
    · rw [z, sc_n1b] at h
      exact pk_le l (sc_d (A w) (C j)) (fun y => pk_eq (sc_d (A w) (C j)) l (fun _ => nm_r (nI_1 t) (nm_r (nI_1 j) (ih (j + 1) _ _ (by omega) (by omega) h))) (fun y => absurd z y)) (fun y => absurd z (Nat.ne_of_lt y))
    · rw [sc_n1c z] at h
      exact pk_le l (sc_d (A w) (C j)) (fun y => pk_eq (sc_d (A w) (C j)) l (fun y => absurd y.symm (Nat.ne_of_lt z)) (fun _ => nm_r (nI_1 j) (ih (j + 1) _ _ (by omega) (by omega) h))) (fun y => absurd z (Nat.lt_asymm y))
theorem sx_ne {post : Int32 → Prop} {H : Int32} {A C : Nat → Int32} {w : Nat} (hw : w < 16) (h : post (nI (sc_n (sc_df C (A w)) 256 0 (13, 0)).1 * 1000 + nI (sc_n (sc_df C (A w)) 256 0 (13, 0)).2)) : wpX_nearest post (H, A, C) (nI w) := by
  unfold wpX_nearest
  dsimp only
  rw [← sc_nne (sc_df C (A w)) (sc_dle _ _) 255] at h
  exact sx_wt hw (br_f (by decide) ⟨257, sx_neL hw 256 0 14 0 rfl (by omega) h⟩)
theorem sy_ne {post : Int32 → Prop} {H : Int32} {A C : Nat → Int32} {w : Nat} (hw : w < 16) (h : post (nI (sc_n (sc_df C (A w)) 256 0 (13, 0)).1 * 1000 + nI (sc_n (sc_df C (A w)) 256 0 (13, 0)).2)) : wpY_nearest post (H, A, C) (nI w) := by
  unfold wpY_nearest
  dsimp only
  rw [Int32.mul_comm] at h
  exact sy_wt hw (br_f (by decide) ⟨257, sy_neL hw 256 0 13 0 rfl (by omega) h⟩)
end
section
/-! what is owed -/
def i_Rel (_ : Nat) (u : SX) (v : SY) : Prop := ∃ (h : Nat) (A : Nat → Int32), h < 16 ∧ u = (nI h, A, sc_T sc_C 256) ∧ v = (nI h, A, sc_T sc_C 256)
theorem sr_mk {k h : Nat} {A : Nat → Int32} (hh : h < 16) : i_Rel k (nI h, A, sc_T sc_C 256) (nI h, A, sc_T sc_C 256) := ⟨h, A, hh, rfl, rfl⟩
theorem sr_ix (x : Int32) {n : Nat} (hn : n < 2 ^ 31) : (x < 0 ∨ nI n ≤ x) ∨ ∃ j : Nat, j < n ∧ x = nI j := by
  rcases pk_ix x hn with a | a | a
  · exact Or.inl (Or.inl a)
  · exact Or.inl (Or.inr a)
  · exact Or.inr a
theorem i_up {k : Nat} {u : SX} {v : SY} (h : i_Rel k u v) : i_Rel (k + 3) u v := h
theorem i_vc0 : wpX_init (fun u => wpY_init (fun v => i_Rel 0 u v)) := sx_in (sy_in (sr_mk (h := 0) (by omega)))
theorem i_vc_write {k : Nat} {u : SX} {v : SY} (I : i_Rel k u v) (hk : k + 3 ≤ 1536) (v1 : Int32) (v2 : Int32) : wpX_write (fun r u' => wpY_write (fun r' v' => r' = r ∧ i_Rel (k + 3) u' v') v v1 v2) u v1 v2 := by
  obtain ⟨h, A, hh, rfl, rfl⟩ := I
  unfold wpX_write wpY_write
  dsimp only
  rcases sr_ix v1 (n := 16) (by omega) with z | ⟨w, hw, rfl⟩
  · exact sx_wf z (br_t rfl (sy_wf z (br_t rfl ⟨rfl, sr_mk hh⟩)))
  · refine sx_wt hw (br_f (by decide) ?_)
    rcases sr_ix v2 (n := 256) (by omega) with z | ⟨b, hb, rfl⟩
    · refine sx_bf z (br_t rfl (sy_wt hw (br_f (by decide) ?_)))
      by_cases y : v2 < 0
      · exact br_t y ⟨rfl, sr_mk hh⟩
      · exact br_f y (br_f (Int32.not_le.mpr (sc_gt (n := 255) (by omega) (z.resolve_left y))) ⟨rfl, sr_mk hh⟩)
    · have i1 : vp_in (nI w) 16 := vp_in_nI hw (by omega)
      have i2 : vp_in (nI b) 256 := vp_in_nI hb (by omega)
      exact sx_bt hb (br_f (by decide) ⟨i2, i1, nm_e ⟨i1, sy_wt hw (br_f (by decide) (br_f (nI_pos (by omega)) (br_t (nI_le (b := 255) (by omega) (by omega)) ⟨i2, i1, nm_e ⟨i1, rfl, sr_mk hh⟩⟩)))⟩⟩)
theorem i_vc_flip {k : Nat} {u : SX} {v : SY} (I : i_Rel k u v) (hk : k + 3 ≤ 1536) (v1 : Int32) (v2 : Int32) : wpX_flip (fun r u' => wpY_flip (fun r' v' => r' = r ∧ i_Rel (k + 3) u' v') v v1 v2) u v1 v2 := by
  obtain ⟨h, A, hh, rfl, rfl⟩ := I
  unfold wpX_flip wpY_flip
  dsimp only
  rcases sr_ix v1 (n := 16) (by omega) with z | ⟨w, hw, rfl⟩
  · exact sx_wf z (br_t rfl (sy_wf z (br_t rfl ⟨rfl, sr_mk hh⟩)))
  · refine sx_wt hw (br_f (by decide) ?_)
    rcases sr_ix v2 (n := 13) (by omega) with z | ⟨b, hb, rfl⟩
    · refine sx_if z (br_t rfl (sy_wt hw (br_f (by decide) ?_)))
      by_cases y : v2 < 0
      · exact br_t y ⟨rfl, sr_mk hh⟩
      · exact br_f y (br_f (Int32.not_le.mpr (sc_gt (n := 12) (by omega) (z.resolve_left y))) ⟨rfl, sr_mk hh⟩)
    · have i1 : vp_in (nI w) 16 := vp_in_nI hw (by omega)
      exact sx_it hb (br_f (by decide) ⟨i1, i1, nm_e ⟨i1, sy_wt hw (br_f (by decide) (br_f (nI_pos (by omega)) (br_t (nI_le (b := 12) (by omega) (by omega)) ⟨i1, i1, nm_e ⟨i1, rfl, sr_mk hh⟩⟩)))⟩⟩)
theorem i_vc_read {k : Nat} {u : SX} {v : SY} (I : i_Rel k u v) (hk : k + 3 ≤ 1536) (v1 : Int32) : wpX_read (fun r => wpY_read (fun r' => r' = r ∧ i_Rel (k + 3) u v) v v1) u v1 := by
  obtain ⟨h, A, hh, rfl, rfl⟩ := I
  unfold wpX_read
  dsimp only
  rcases sr_ix v1 (n := 16) (by omega) with z | ⟨w, hw, rfl⟩
  · exact sx_wf z (br_t rfl (sy_rf z ⟨rfl, sr_mk hh⟩))
  · refine sx_wt hw (br_f (by decide) ⟨vp_in_nI hw (by omega), ?_⟩)
    rw [nI_clamp (show w < 2 ^ 31 by omega)]
    exact sx_so (sy_re hw ⟨rfl, sr_mk hh⟩)
theorem i_vc_repair {k : Nat} {u : SX} {v : SY} (I : i_Rel k u v) (hk : k + 3 ≤ 1536) (v1 : Int32) : wpX_repair (fun r u' => wpY_repair (fun r' v' => r' = r ∧ i_Rel (k + 3) u' v') v v1) u v1 := by
  obtain ⟨h, A, hh, rfl, rfl⟩ := I
  unfold wpX_repair
  dsimp only
  rcases sr_ix v1 (n := 16) (by omega) with z | ⟨w, hw, rfl⟩
  · exact sx_wf z (br_t rfl (sy_rb z ⟨rfl, sr_mk hh⟩))
  · exact sx_wt hw (br_f (by decide) (sx_me hw (sy_rp hw ⟨rfl, sr_mk hh⟩)))
theorem i_vc_scrub {k : Nat} {u : SX} {v : SY} (I : i_Rel k u v) (hk : k + 3 ≤ 1536) (v1 : Int32) : wpX_scrub (fun r u' => wpY_scrub (fun r' v' => r' = r ∧ i_Rel (k + 3) u' v') v v1) u v1 := by
  obtain ⟨h, A, hh, rfl, rfl⟩ := I
  obtain ⟨r, hr, hx⟩ : ∃ r : Nat, r ≤ 32 ∧ ((v1 < 0 ∧ r = 0) ∨ (nI 33 ≤ v1 ∧ r = 32) ∨ (r < 33 ∧ v1 = nI r)) := by
    rcases pk_ix v1 (n := 33) (by omega) with a | a | ⟨j, hj, e⟩
    · exact ⟨0, by omega, Or.inl ⟨a, rfl⟩⟩
    · exact ⟨32, by omega, Or.inr (Or.inl ⟨a, rfl⟩)⟩
    · exact ⟨j, by omega, Or.inr (Or.inr ⟨hj, e⟩)⟩
  exact sx_sc hh hr hx (sy_sc hh hr hx ⟨rfl, sr_mk (sc_sh _ _ _ _ _ hh)⟩)
theorem i_vc_hand {k : Nat} {u : SX} {v : SY} (I : i_Rel k u v) (hk : k + 3 ≤ 1536) : wpX_hand (fun r => wpY_hand (fun r' => r' = r ∧ i_Rel (k + 3) u v) v) u := by
  obtain ⟨h, A, hh, rfl, rfl⟩ := I
  exact ⟨rfl, sr_mk hh⟩
theorem i_vc_broken {k : Nat} {u : SX} {v : SY} (I : i_Rel k u v) (hk : k + 3 ≤ 1536) : wpX_broken (fun r => wpY_broken (fun r' => r' = r ∧ i_Rel (k + 3) u v) v) u := by
  obtain ⟨h, A, hh, rfl, rfl⟩ := I
  exact sx_br (sy_br ⟨rfl, sr_mk hh⟩)
theorem i_vc_marred {k : Nat} {u : SX} {v : SY} (I : i_Rel k u v) (hk : k + 3 ≤ 1536) : wpX_marred (fun r => wpY_marred (fun r' => r' = r ∧ i_Rel (k + 3) u v) v) u := by
  obtain ⟨h, A, hh, rfl, rfl⟩ := I
  exact sx_ma (sy_ma ⟨rfl, sr_mk hh⟩)
theorem i_vc_raw {k : Nat} {u : SX} {v : SY} (I : i_Rel k u v) (hk : k + 3 ≤ 1536) (v1 : Int32) : wpX_raw (fun r => wpY_raw (fun r' => r' = r ∧ i_Rel (k + 3) u v) v v1) u v1 := by
  obtain ⟨h, A, hh, rfl, rfl⟩ := I
  unfold wpX_raw wpY_raw
  dsimp only
  rcases sr_ix v1 (n := 16) (by omega) with z | ⟨w, hw, rfl⟩
  · exact sx_wf z (br_t rfl (sy_wf z (br_t rfl ⟨rfl, sr_mk hh⟩)))
  · have i1 : vp_in (nI w) 16 := vp_in_nI hw (by omega)
    exact sx_wt hw (br_f (by decide) ⟨i1, sy_wt hw (br_f (by decide) ⟨i1, rfl, sr_mk hh⟩)⟩)
theorem i_vc_distance {k : Nat} {u : SX} {v : SY} (I : i_Rel k u v) (hk : k + 3 ≤ 1536) (v1 : Int32) (v2 : Int32) : wpX_distance (fun r => wpY_distance (fun r' => r' = r ∧ i_Rel (k + 3) u v) v v1 v2) u v1 v2 := by
  obtain ⟨h, A, hh, rfl, rfl⟩ := I
  unfold wpX_distance wpY_distance
  dsimp only
  rcases sr_ix v1 (n := 16) (by omega) with z | ⟨w, hw, rfl⟩
  · exact sx_wf z (br_t rfl (sy_wf z (br_t rfl ⟨rfl, sr_mk hh⟩)))
  · refine sx_wt hw (br_f (by decide) ?_)
    rcases sr_ix v2 (n := 256) (by omega) with z | ⟨b, hb, rfl⟩
    · refine sx_bf z (br_t rfl (sy_wt hw (br_f (by decide) ?_)))
      by_cases y : v2 < 0
      · exact br_t y ⟨rfl, sr_mk hh⟩
      · exact br_f y (br_f (Int32.not_le.mpr (sc_gt (n := 255) (by omega) (z.resolve_left y))) ⟨rfl, sr_mk hh⟩)
    · have i1 : vp_in (nI w) 16 := vp_in_nI hw (by omega)
      have i2 : vp_in (nI b) 256 := vp_in_nI hb (by omega)
      exact sx_bt hb (br_f (by decide) ⟨i1, i2, sx_co (sy_wt hw (br_f (by decide) (br_f (nI_pos (by omega)) (br_t (nI_le (b := 255) (by omega) (by omega)) ⟨i1, i2, sy_ap ⟨rfl, sr_mk hh⟩⟩))))⟩)
theorem i_vc_nearest {k : Nat} {u : SX} {v : SY} (I : i_Rel k u v) (hk : k + 3 ≤ 1536) (v1 : Int32) : wpX_nearest (fun r => wpY_nearest (fun r' => r' = r ∧ i_Rel (k + 3) u v) v v1) u v1 := by
  obtain ⟨h, A, hh, rfl, rfl⟩ := I
  rcases sr_ix v1 (n := 16) (by omega) with z | ⟨w, hw, rfl⟩
  · unfold wpX_nearest wpY_nearest
    dsimp only
    exact sx_wf z (br_t rfl (sy_wf z (br_t rfl ⟨rfl, sr_mk hh⟩)))
  · exact sx_ne hw (sy_ne hw ⟨rfl, sr_mk hh⟩)
theorem i_vc_mix {k : Nat} {u : SX} {v : SY} (I : i_Rel k u v) (hk : k + 3 ≤ 1536) (v1 : Int32) (v2 : Int32) : wpX_mix (fun r u' => wpY_mix (fun r' v' => r' = r ∧ i_Rel (k + 3) u' v') v v1 v2) u v1 v2 := by
  obtain ⟨h, A, hh, rfl, rfl⟩ := I
  unfold wpX_mix wpY_mix
  dsimp only
  rcases sr_ix v1 (n := 16) (by omega) with z | ⟨w, hw, rfl⟩
  · exact sx_wf z (br_t rfl (sy_wf z (br_t rfl ⟨rfl, sr_mk hh⟩)))
  · refine sx_wt hw (br_f (by decide) ?_)
    rcases sr_ix v2 (n := 16) (by omega) with z | ⟨x, hx, rfl⟩
    · exact sx_wf z (br_t rfl (sy_wt hw (br_f (by decide) (sy_wf z (br_t rfl ⟨rfl, sr_mk hh⟩)))))
    · have i1 : vp_in (nI w) 16 := vp_in_nI hw (by omega)
      have i2 : vp_in (nI x) 16 := vp_in_nI hx (by omega)
      refine sx_wt hx (br_f (by decide) ⟨i1, ?_⟩)
      rw [nI_clamp (show w < 2 ^ 31 by omega), nI_clamp (show x < 2 ^ 31 by omega)]
      refine sx_so ⟨i2, sx_so ?_⟩
      rcases sc_vr (sc_T sc_C 256) (A w) with y | ⟨p, hp, y⟩
      · refine br_t y (sy_wt hw (br_f (by decide) (sy_wt hx (br_f (by decide) (sy_re hw (sy_re hx ?_))))))
        rw [y]
        exact br_t (by decide) ⟨rfl, sr_mk hh⟩
      · rw [y]
        refine br_f (sc_n2 hp) ?_
        rcases sc_vr (sc_T sc_C 256) (A x) with y2 | ⟨q, hq, y2⟩
        · refine br_t y2 (sy_wt hw (br_f (by decide) (sy_wt hx (br_f (by decide) (sy_re hw (sy_re hx ?_))))))
          rw [y, y2]
          exact br_f (nI_pos (by omega)) (br_f (by decide) ⟨rfl, sr_mk hh⟩)
        · rw [y2]
          have hm : p ^^^ q < 256 := Nat.xor_lt_two_pow (n := 8) hp hq
          have i3 : vp_in (nI (p ^^^ q)) 256 := vp_in_nI hm (by omega)
          have e3 : (nI p ^^^ nI q) &&& 255 = nI (p ^^^ q) := by
            rw [nx_xor, pk_andN (by omega) 8 (by decide), Nat.mod_eq_of_lt hm]
          refine br_f (sc_n2 hq) (nm_r (nx_xor p q) ⟨i3, i2, nm_e (sy_wt hw (br_f (by decide) (sy_wt hx (br_f (by decide) (sy_re hw (sy_re hx ?_))))))⟩)
          rw [y, y2, e3]
          refine br_f (nI_pos (by omega)) (br_t (nI_pos' (by omega)) ⟨i3, i2, nm_e ⟨nx_xor p q, sr_mk hh⟩⟩)
end
