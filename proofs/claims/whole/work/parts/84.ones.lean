/-! how many bits are 1 -/
def pop : Nat → Nat → Nat
  | 0, _ => 0
  | k + 1, x => x % 2 + pop k (x / 2)
theorem pop_add (a : Nat) : ∀ (b x : Nat), pop (a + b) x = pop a x + pop b (x / 2 ^ a) := by
  induction a with
  | zero => intro b x; rw [Nat.zero_add, Nat.pow_zero, Nat.div_one]; show _ = 0 + _; omega
  | succ a ih =>
    intro b x
    rw [show a + 1 + b = (a + b) + 1 by omega, pop, pop, ih, Nat.div_div_eq_div_mul, show 2 * 2 ^ a = 2 ^ (a + 1) by rw [Nat.pow_succ]; omega]
    omega
theorem pop_mod (k : Nat) : ∀ x, pop k (x % 2 ^ k) = pop k x := by
  induction k with
  | zero => intro x; rfl
  | succ k ih =>
    intro x
    have e1 : x % 2 ^ (k + 1) % 2 = x % 2 := by
      rw [show 2 ^ (k + 1) = 2 * 2 ^ k by rw [Nat.pow_succ]; omega, Nat.mod_mul_right_mod]
    have e2 : x % 2 ^ (k + 1) / 2 = x / 2 % 2 ^ k := by
      rw [show 2 ^ (k + 1) = 2 * 2 ^ k by rw [Nat.pow_succ]; omega, Nat.mod_mul_right_div_self]
    rw [pop, pop, e1, e2, ih]
theorem pop_0 (k : Nat) : pop k 0 = 0 := by
  induction k with
  | zero => rfl
  | succ k ih => rw [pop, show 0 / 2 = 0 from rfl, ih]
def mk8 (c : Nat) : Nat → Nat
  | 0 => 0
  | k + 1 => c + 256 * mk8 c k
theorem and8 (a b : Nat) : a &&& b = ((a % 256) &&& (b % 256)) + 256 * ((a / 256) &&& (b / 256)) := by
  have h1 : (a &&& b) % 2 ^ 8 = (a % 2 ^ 8) &&& (b % 2 ^ 8) := Nat.and_mod_two_pow
  have h2 : (a &&& b) / 2 ^ 8 = (a / 2 ^ 8) &&& (b / 2 ^ 8) := Nat.and_div_two_pow
  have e : (2 : Nat) ^ 8 = 256 := by decide
  rw [e] at h1 h2
  rw [← h1, ← h2]
  omega
theorem mk8_and (c k a : Nat) (hc : c < 256) : a &&& mk8 c (k + 1) = ((a % 256) &&& c) + 256 * ((a / 256) &&& mk8 c k) := by
  rw [and8, show mk8 c (k + 1) = c + 256 * mk8 c k from rfl, show (c + 256 * mk8 c k) % 256 = c by omega, show (c + 256 * mk8 c k) / 256 = mk8 c k by omega]
def u1 (b : Nat) : Nat := b - (b / 2 &&& 85)
def u2 (p : Nat) : Nat := (p &&& 51) + (p / 4 &&& 51)
/-- three steps, byte by byte -/
def dg (f : Nat → Nat) : Nat → Nat → Nat
  | 0, _ => 0
  | k + 1, x => f (x % 256) + 256 * dg f k (x / 256)
theorem b1 : ∀ b, b < 128 → ∀ y, y < 2 → (b + 128 * y) &&& 85 = b &&& 85 := by decide +kernel
theorem b2 : ∀ b, b < 64 → ∀ y, y < 4 → (b + 64 * y) &&& 51 = b &&& 51 := by decide +kernel
theorem u1_lt : ∀ b, b < 256 → u1 b < 256 := by decide +kernel
theorem u2_lt : ∀ b, b < 256 → u2 b < 256 := by decide +kernel
theorem w_ok : ∀ b, b < 256 → u2 (u1 b) % 16 ≤ 4 ∧ u2 (u1 b) / 16 ≤ 4 ∧ (u2 (u1 b) + u2 (u1 b) / 16) % 16 = pop 8 b ∧ pop 8 b ≤ 8 := by decide +kernel
theorem s1_is (k : Nat) : ∀ x, x < 256 ^ k → x - (x / 2 &&& mk8 85 k) = dg u1 k x := by
  induction k with
  | zero => intro x hx; rw [Nat.pow_zero] at hx; have : x = 0 := by omega
            subst this; rfl
  | succ k ih =>
    intro x hx
    rw [Nat.pow_succ] at hx
    have hy : x / 256 < 256 ^ k := Nat.div_lt_of_lt_mul (by omega)
    rw [dg, ← ih _ hy, mk8_and 85 k _ (by decide)]
    have e1 : x / 2 % 256 = x % 256 / 2 + 128 * (x / 256 % 2) := by omega
    have e2 : x / 2 / 256 = x / 256 / 2 := by omega
    rw [e1, e2, b1 _ (by omega) _ (by omega)]
    unfold u1
    have l1 : x % 256 / 2 &&& 85 ≤ x % 256 / 2 := Nat.and_le_left
    have l2 : x / 256 / 2 &&& mk8 85 k ≤ x / 256 / 2 := Nat.and_le_left
    omega
theorem dg_lt (f : Nat → Nat) (hf : ∀ b, b < 256 → f b < 256) (k : Nat) : ∀ x, dg f k x < 256 ^ k := by
  induction k with
  | zero => intro x; exact (by decide : 0 < 256 ^ 0)
  | succ k ih =>
    intro x
    have h1 := ih (x / 256)
    have h2 := hf (x % 256) (Nat.mod_lt _ (by decide))
    rw [dg, Nat.pow_succ]
    omega
theorem s2_is (k : Nat) : ∀ x, (dg u1 k x &&& mk8 51 k) + (dg u1 k x / 4 &&& mk8 51 k) = dg (fun b => u2 (u1 b)) k x := by
  induction k with
  | zero => intro x; show (0 &&& 0) + (0 / 4 &&& 0) = 0; decide
  | succ k ih =>
    intro x
    have hp := u1_lt (x % 256) (Nat.mod_lt _ (by decide))
    rw [dg, dg, ← ih, mk8_and 51 k _ (by decide), mk8_and 51 k _ (by decide)]
    generalize dg u1 k (x / 256) = q
    generalize u1 (x % 256) = p at hp ⊢
    rw [show (p + 256 * q) % 256 = p by omega, show (p + 256 * q) / 256 = q by omega, show (p + 256 * q) / 4 % 256 = p / 4 + 64 * (q % 4) by omega, show (p + 256 * q) / 4 / 256 = q / 4 by omega, b2 _ (by omega) _ (by omega)]
    unfold u2
    omega
theorem s3_is (k : Nat) : ∀ x, dg (fun b => u2 (u1 b)) k x % 16 ≤ 4 ∧ (dg (fun b => u2 (u1 b)) k x + dg (fun b => u2 (u1 b)) k x / 16 &&& mk8 15 k) = dg (pop 8) k x := by
  induction k with
  | zero => intro x; exact ⟨(by decide : 0 % 16 ≤ 4), (by decide : (0 + 0 / 16 &&& 0) = 0)⟩
  | succ k ih =>
    intro x
    obtain ⟨w1, w2, w3, w4⟩ := w_ok (x % 256) (Nat.mod_lt _ (by decide))
    obtain ⟨i1, i2⟩ := ih (x / 256)
    rw [dg, dg, ← i2, mk8_and 15 k _ (by decide), ← w3]
    generalize dg (fun b => u2 (u1 b)) k (x / 256) = q at i1 ⊢
    generalize u2 (u1 (x % 256)) = p at w1 w2 ⊢
    refine ⟨by omega, ?_⟩
    have e1 : (p + 256 * q + (p + 256 * q) / 16) % 256 = p + p / 16 + 16 * (q % 16) := by omega
    have e2 : (p + 256 * q + (p + 256 * q) / 16) / 256 = q + q / 16 := by omega
    have e3 : (p + p / 16 + 16 * (q % 16)) &&& 15 = (p + p / 16 + 16 * (q % 16)) % 16 := Nat.and_two_pow_sub_one_eq_mod _ 4
    rw [e1, e2, e3]
    omega
theorem dv {a q d : Nat} (h : a < d) : (a + d * q) / d = q := by
  rw [Nat.add_mul_div_left _ _ (by omega), Nat.div_eq_of_lt h, Nat.zero_add]
theorem sum8 {p0 p1 p2 p3 p4 p5 p6 p7 : Nat} (h0 : p0 ≤ 8) (h1 : p1 ≤ 8) (h2 : p2 ≤ 8) (h3 : p3 ≤ 8) (h4 : p4 ≤ 8) (h5 : p5 ≤ 8) (h6 : p6 ≤ 8) (h7 : p7 ≤ 8) {r t1 t2 t3 : Nat} (hr : r = p0 + 256 * (p1 + 256 * (p2 + 256 * (p3 + 256 * (p4 + 256 * (p5 + 256 * (p6 + 256 * p7))))))) (e1 : t1 = r + r / 256) (e2 : t2 = t1 + t1 / 65536) (e3 : t3 = t2 + t2 / 4294967296) : t3 % 128 = p0 + p1 + p2 + p3 + p4 + p5 + p6 + p7 := by
  have d1 : r / 256 = p1 + 256 * (p2 + 256 * (p3 + 256 * (p4 + 256 * (p5 + 256 * (p6 + 256 * p7))))) := by rw [hr]; exact dv (by omega)
  rw [d1, hr] at e1
  clear hr d1
  have f1 : t1 = ((p0 + p1) + 256 * (p1 + p2)) + 65536 * ((p2 + p3) + 256 * ((p3 + p4) + 256 * ((p4 + p5) + 256 * ((p5 + p6) + 256 * ((p6 + p7) + 256 * p7))))) := by rw [e1]; omega
  clear e1
  have d2 : t1 / 65536 = (p2 + p3) + 256 * ((p3 + p4) + 256 * ((p4 + p5) + 256 * ((p5 + p6) + 256 * ((p6 + p7) + 256 * p7)))) := by rw [f1]; exact dv (by omega)
  rw [d2, f1] at e2
  clear f1 d2
  have f2 : t2 = ((p0 + p1 + p2 + p3) + 256 * ((p1 + p2 + p3 + p4) + 256 * ((p2 + p3 + p4 + p5) + 256 * (p3 + p4 + p5 + p6)))) + 4294967296 * ((p4 + p5 + p6 + p7) + 256 * ((p5 + p6 + p7) + 256 * ((p6 + p7) + 256 * p7))) := by rw [e2]; omega
  clear e2
  have d3 : t2 / 4294967296 = (p4 + p5 + p6 + p7) + 256 * ((p5 + p6 + p7) + 256 * ((p6 + p7) + 256 * p7)) := by rw [f2]; exact dv (by omega)
  rw [d3, f2] at e3
  clear f2 d3
  have f3 : t3 = (p0 + p1 + p2 + p3 + p4 + p5 + p6 + p7) + 128 * (2 * ((p1 + p2 + p3 + p4) + 256 * ((p2 + p3 + p4 + p5) + 256 * (p3 + p4 + p5 + p6))) + 33554432 * ((p4 + p5 + p6 + p7) + 256 * ((p5 + p6 + p7) + 256 * ((p6 + p7) + 256 * p7))) + 2 * ((p5 + p6 + p7) + 256 * ((p6 + p7) + 256 * p7))) := by rw [e3]; omega
  rw [f3, Nat.add_mul_mod_self_left]
  exact Nat.mod_eq_of_lt (by omega)
theorem lN_and (a b : Nat) : lN a &&& lN b = lN (a &&& b) := by
  apply i64_ext
  apply BitVec.eq_of_toNat_eq
  rw [Int64.toBitVec_and, BitVec.toNat_and, lN_bv, lN_bv, lN_bv, BitVec.toNat_ofNat, BitVec.toNat_ofNat, BitVec.toNat_ofNat, Nat.and_mod_two_pow]
theorem dg8 (x : Nat) : ∃ p0 p1 p2 p3 p4 p5 p6 p7 : Nat, (p0 ≤ 8 ∧ p1 ≤ 8 ∧ p2 ≤ 8 ∧ p3 ≤ 8 ∧ p4 ≤ 8 ∧ p5 ≤ 8 ∧ p6 ≤ 8 ∧ p7 ≤ 8) ∧ dg (pop 8) 8 x = p0 + 256 * (p1 + 256 * (p2 + 256 * (p3 + 256 * (p4 + 256 * (p5 + 256 * (p6 + 256 * p7)))))) ∧ pop 64 x = p0 + p1 + p2 + p3 + p4 + p5 + p6 + p7 := by
  have hp : ∀ b, pop 8 (b % 256) ≤ 8 := fun b => (w_ok (b % 256) (Nat.mod_lt _ (by decide))).2.2.2
  refine ⟨_, _, _, _, _, _, _, _, ⟨hp x, hp (x / 256), hp (x / 256 / 256), hp (x / 256 / 256 / 256), hp (x / 256 / 256 / 256 / 256), hp (x / 256 / 256 / 256 / 256 / 256), hp (x / 256 / 256 / 256 / 256 / 256 / 256), hp (x / 256 / 256 / 256 / 256 / 256 / 256 / 256)⟩, ?_, ?_⟩
  · rw [dg, dg, dg, dg, dg, dg, dg, dg, dg, Nat.mul_zero, Nat.add_zero]
  · have e256 : (256 : Nat) = 2 ^ 8 := by decide
    have pm : ∀ y, pop 8 (y % 256) = pop 8 y := fun y => by rw [e256]; exact pop_mod 8 y
    have p8 : ∀ k y, pop (8 + k) y = pop 8 y + pop k (y / 256) := fun k y => by rw [pop_add, ← e256]
    rw [pm, pm, pm, pm, pm, pm, pm, pm]
    rw [show (64 : Nat) = 8 + (8 + (8 + (8 + (8 + (8 + (8 + (8 + 0))))))) by decide, p8, p8, p8, p8, p8, p8, p8, p8, show pop 0 _ = 0 from rfl, Nat.add_zero, Nat.add_assoc, Nat.add_assoc, Nat.add_assoc, Nat.add_assoc, Nat.add_assoc, Nat.add_assoc]
theorem rb8 {p0 p1 p2 p3 p4 p5 p6 p7 r : Nat} (h : p0 ≤ 8 ∧ p1 ≤ 8 ∧ p2 ≤ 8 ∧ p3 ≤ 8 ∧ p4 ≤ 8 ∧ p5 ≤ 8 ∧ p6 ≤ 8 ∧ p7 ≤ 8) (hr : r = p0 + 256 * (p1 + 256 * (p2 + 256 * (p3 + 256 * (p4 + 256 * (p5 + 256 * (p6 + 256 * p7))))))) : r < 2 ^ 60 := by
  rw [hr]
  omega
theorem bc_tail {r : Nat} (hr : r < 2 ^ 60) {t1 t2 t3 : Nat} (ht1 : r + r / 256 = t1) (ht2 : t1 + t1 / 65536 = t2) (ht3 : t2 + t2 / 4294967296 = t3) : Int64.toInt32 (lN r + xul (lN r) 8 + xul (lN r + xul (lN r) 8) 16 + xul (lN r + xul (lN r) 8 + xul (lN r + xul (lN r) 8) 16) 32) &&& 127 = nI (t3 % 128) := by
  have b1 : t1 < 2 ^ 61 := by omega
  have b2 : t2 < 2 ^ 62 := by omega
  have c1 : lN r + xul (lN r) 8 = lN t1 := by
    rw [show xul (lN r) 8 = lN (r / 2 ^ 8) from xul_is (k := 8) (by omega) (by decide), lN_add, show (2 : Nat) ^ 8 = 256 by decide, ht1]
  have c2 : lN t1 + xul (lN t1) 16 = lN t2 := by
    rw [show xul (lN t1) 16 = lN (t1 / 2 ^ 16) from xul_is (k := 16) (by omega) (by decide), lN_add, show (2 : Nat) ^ 16 = 65536 by decide, ht2]
  have c3 : lN t2 + xul (lN t2) 32 = lN t3 := by
    rw [show xul (lN t2) 32 = lN (t2 / 2 ^ 32) from xul_is (k := 32) (by omega) (by decide), lN_add, show (2 : Nat) ^ 32 = 4294967296 by decide, ht3]
  rw [c1, c2, c3, lN_i, pk_and (nI t3) (m := 127) 7 (by decide), nI_tn]
  congr 1
  show t3 % 4294967296 % 128 = t3 % 128
  omega
theorem bc_is {x : Nat} (hx : x < 2 ^ 64) : f_J13_bitCount_95d88 (lN x) = some (nI (pop 64 x)) := by
  have m1 : (6148914691236517205 : Int64) = lN (mk8 85 8) := by decide +kernel
  have m2 : (3689348814741910323 : Int64) = lN (mk8 51 8) := by decide +kernel
  have m4 : (1085102592571150095 : Int64) = lN (mk8 15 8) := by decide +kernel
  have hx8 : x < 256 ^ 8 := hx
  have hd1 := dg_lt u1 u1_lt 8 x
  have hd2 := dg_lt (fun b => u2 (u1 b)) (fun b hb => u2_lt _ (u1_lt b hb)) 8 x
  have hd3 := dg_lt (pop 8) (fun b hb => Nat.lt_of_le_of_lt (w_ok b hb).2.2.2 (by decide)) 8 x
  have e8 : (256 : Nat) ^ 8 = 2 ^ 64 := by decide
  rw [e8] at hd1 hd2 hd3
  have l1 : x / 2 &&& mk8 85 8 ≤ x / 2 := Nat.and_le_left
  have a1 : lN x - (xul (lN x) 1 &&& 6148914691236517205) = lN (dg u1 8 x) := by
    rw [m1, show xul (lN x) 1 = lN (x / 2 ^ 1) from xul_is (k := 1) hx (by decide), show (2 : Nat) ^ 1 = 2 by decide, lN_and, lN_sub (by omega), s1_is 8 x hx8]
  have a2 : (lN (dg u1 8 x) &&& 3689348814741910323) + (xul (lN (dg u1 8 x)) 2 &&& 3689348814741910323) = lN (dg (fun b => u2 (u1 b)) 8 x) := by
    rw [m2, show xul (lN (dg u1 8 x)) 2 = lN (dg u1 8 x / 2 ^ 2) from xul_is (k := 2) hd1 (by decide), lN_and, lN_and, lN_add, show (2 : Nat) ^ 2 = 4 by decide, s2_is]
  have a3 : (lN (dg (fun b => u2 (u1 b)) 8 x) + xul (lN (dg (fun b => u2 (u1 b)) 8 x)) 4) &&& 1085102592571150095 = lN (dg (pop 8) 8 x) := by
    rw [m4, show xul (lN (dg (fun b => u2 (u1 b)) 8 x)) 4 = lN (dg (fun b => u2 (u1 b)) 8 x / 2 ^ 4) from xul_is (k := 4) hd2 (by decide), lN_add, lN_and, show (2 : Nat) ^ 4 = 16 by decide, (s3_is 8 x).2]
  unfold f_J13_bitCount_95d88
  rw [a1, a2, a3]
  obtain ⟨p0, p1, p2, p3, p4, p5, p6, p7, h8, hr, hs⟩ := dg8 x
  have hb := rb8 h8 hr
  rw [bc_tail hb rfl rfl rfl, sum8 h8.1 h8.2.1 h8.2.2.1 h8.2.2.2.1 h8.2.2.2.2.1 h8.2.2.2.2.2.1 h8.2.2.2.2.2.2.1 h8.2.2.2.2.2.2.2 hr rfl rfl rfl, hs]
