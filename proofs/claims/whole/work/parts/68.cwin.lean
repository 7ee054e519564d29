/-! the class's window, its 43 bits, its load byte, what it sent -/
theorem tx_f : ∀ a, a < 256 → tx a = (a <<< 1) ^^^ (263 * (a >>> 7)) := by decide +kernel
theorem tx_xor (a : Nat) (ha : a < 256) (b : Nat) (hb : b < 256) : tx (a ^^^ b) = tx a ^^^ tx b := by
  have e : ∀ x, x < 2 → ∀ y, y < 2 → 263 * (x ^^^ y) = 263 * x ^^^ 263 * y := by decide +kernel
  have l : ∀ x : Nat, x < 256 → x >>> 7 < 2 := by decide +kernel
  rw [tx_f _ (xor_lt256 ha hb), tx_f a ha, tx_f b hb, Nat.shiftLeft_xor_distrib, Nat.shiftRight_xor_distrib, e _ (l a ha) _ (l b hb)]
  rw [Nat.xor_assoc, Nat.xor_assoc, ← Nat.xor_assoc (b <<< 1), ← Nat.xor_assoc (263 * (a >>> 7)), Nat.xor_comm (b <<< 1)]
theorem rmod_s (k w : Nat) : rmod (k + 1) w = tx (rmod k (w / 2)) ^^^ (w % 2) := rfl
theorem tx_sm {x : Nat} (h : x < 128) : tx x = 2 * x := by unfold tx; rw [if_neg (by omega)]
theorem xor_lowb {a b : Nat} (hb : b < 2) : 2 * a ^^^ b = 2 * a + b := by
  have e : ∀ a b : Nat, b < 2 → 2 * a ^^^ b = 2 * a + b := by
    intro a b hb
    apply Nat.eq_of_testBit_eq
    intro i
    rw [Nat.testBit_xor]
    cases i with
    | zero =>
      rw [Nat.testBit_zero, Nat.testBit_zero, Nat.testBit_zero]
      have hb' : b = 0 ∨ b = 1 := by omega
      rcases hb' with rfl | rfl <;> simp <;> omega
    | succ i =>
      rw [Nat.testBit_succ, Nat.testBit_succ, Nat.testBit_succ, show 2 * a / 2 = a by omega, show b / 2 = 0 by omega, show (2 * a + b) / 2 = a by omega]
      simp
  exact e a b hb
/-- the last bits told apart -/
theorem rmod_low (v : Nat) : ∀ (k : Nat), k ≤ 8 → ∀ w, rmod (32 + k) w = Nat.repeat tx k (rmod 32 (w / 2 ^ k)) ^^^ (w % 2 ^ k) := by
  intro k
  induction k with
  | zero => intro _ w; show rmod 32 w = rmod 32 (w / 1) ^^^ (w % 1); rw [Nat.div_one, Nat.mod_one, Nat.xor_zero]
  | succ k ih =>
    intro hk w
    have hr : ∀ m r, r < 256 → Nat.repeat tx m r < 256 := by
      intro m
      induction m with
      | zero => intro r hr; exact hr
      | succ m ih => intro r hr; exact tx_lt (ih r hr)
    have hp : 2 ^ k ≤ 128 := Nat.pow_le_pow_right (n := 2) (by decide) (show k ≤ 7 by omega)
    have hl : w / 2 % 2 ^ k < 2 ^ k := Nat.mod_lt _ (Nat.two_pow_pos k)
    rw [show 32 + (k + 1) = (32 + k) + 1 by omega, rmod_s, ih (by omega), tx_xor _ (hr _ _ (rmod_lt _ _)) _ (by omega), tx_sm (x := w / 2 % 2 ^ k) (by omega), Nat.xor_assoc, xor_lowb (Nat.mod_lt _ (by decide))]
    rw [Nat.div_div_eq_div_mul, show 2 * 2 ^ k = 2 ^ (k + 1) by rw [Nat.pow_succ]; omega]
    have e : 2 * (w / 2 % 2 ^ k) + w % 2 = w % 2 ^ (k + 1) := by
      rw [show 2 ^ (k + 1) = 2 * 2 ^ k by rw [Nat.pow_succ]; omega, Nat.mod_mul]
      omega
    rw [e]
    rfl
theorem rmod_40 {a b : Nat} (hb : b < 256) : rmod 40 (a * 256 + b) = tx8 (rmod 32 a) ^^^ b := by
  have h := rmod_low 0 8 (by decide) (a * 256 + b)
  rw [show 32 + 8 = 40 from rfl, rep8, show (2 : Nat) ^ 8 = 256 by decide, show (a * 256 + b) / 256 = a by omega, show (a * 256 + b) % 256 = b by omega] at h
  exact h
theorem syn_is {a b : Nat} (hb : b < 256) : rmod 40 (a * 256 + b) ^^^ 85 = chk a ^^^ b := by
  rw [rmod_40 hb]
  unfold chk
  rw [Nat.xor_assoc, Nat.xor_assoc, Nat.xor_comm b 85]
/-- a bit that falls out -/
theorem rmod_top (k : Nat) : ∀ v, v < 2 ^ k → rmod (k + 1) (2 ^ k + v) = pw k ^^^ rmod k v := by
  induction k with
  | zero =>
    intro v hv
    have : v = 0 := by
      have : (2 : Nat) ^ 0 = 1 := rfl
      omega
    subst this
    decide
  | succ k ih =>
    intro v hv
    have hp : 2 ^ (k + 1) = 2 * 2 ^ k := by rw [Nat.pow_succ]; omega
    rw [rmod_s, show (2 ^ (k + 1) + v) / 2 = 2 ^ k + v / 2 by omega, show (2 ^ (k + 1) + v) % 2 = v % 2 by omega, ih (v / 2) (by omega), tx_xor _ (pw_lt k) _ (rmod_lt _ _), Nat.xor_assoc]
    rfl
theorem rmod_hi (k : Nat) : ∀ v, v < 2 ^ k → rmod (k + 1) v = rmod k v := by
  induction k with
  | zero =>
    intro v hv
    have : v = 0 := by
      have : (2 : Nat) ^ 0 = 1 := rfl
      omega
    subst this
    decide
  | succ k ih =>
    intro v hv
    have hp : 2 ^ (k + 1) = 2 * 2 ^ k := by rw [Nat.pow_succ]; omega
    rw [rmod_s, ih (v / 2) (by omega), ← rmod_s]
theorem pw40 : pw 40 = 98 := by decide +kernel
theorem rmod_push {w b : Nat} (hw : w < 2 ^ 40) (hb : b < 2) : rmod 40 ((2 * w + b) % 2 ^ 40) = tx (rmod 40 w) ^^^ b ^^^ (if w < 2 ^ 39 then 0 else 98) := by
  have h1 : rmod 41 (2 * w + b) = tx (rmod 40 w) ^^^ b := by
    rw [rmod_s, show (2 * w + b) / 2 = w by omega, show (2 * w + b) % 2 = b by omega]
  rw [← h1]
  by_cases c : w < 2 ^ 39
  · rw [if_pos c, Nat.mod_eq_of_lt (show 2 * w + b < 2 ^ 40 by omega), Nat.xor_zero, rmod_hi 40 _ (by omega)]
  · rw [if_neg c]
    have e : 2 * w + b = 2 ^ 40 + (2 * w + b) % 2 ^ 40 := by omega
    have h2 := rmod_top 40 ((2 * w + b) % 2 ^ 40) (Nat.mod_lt _ (by decide))
    rw [← e, pw40] at h2
    rw [h2, Nat.xor_comm 98, Nat.xor_assoc, Nat.xor_self, Nat.xor_zero]
theorem lN_shl1 (x : Nat) : (lN x <<< (Int32.toInt64 1 &&& 63)).toBitVec.toNat = 2 * (x % 2 ^ 63) := by
  have e : (lN x <<< (Int32.toInt64 1 &&& 63)).toBitVec = (lN x).toBitVec <<< 1 := by
    show (lN x <<< (Int32.toInt64 1 &&& 63)).toBitVec = _
    have h : (Int32.toInt64 1 &&& 63 : Int64) = 1 := by decide
    rw [h]
    rfl
  rw [e, BitVec.toNat_shiftLeft, lN_bv, BitVec.toNat_ofNat, Nat.shiftLeft_eq]
  omega
theorem lN_shor {x b : Nat} (hb : b < 2) : (lN x <<< (Int32.toInt64 1 &&& 63)) ||| Int32.toInt64 (nI b) = lN (2 * x + b) := by
  rw [nI_l (by omega)]
  apply i64_ext
  apply BitVec.eq_of_toNat_eq
  rw [Int64.toBitVec_or, BitVec.toNat_or, lN_shl1, lN_bv, lN_bv, BitVec.toNat_ofNat, BitVec.toNat_ofNat, Nat.mod_eq_of_lt (show b < 2 ^ 64 by omega), or_low hb]
  omega
theorem lN_mask (a : Nat) (m : Int64) (k : Nat) (hk : k ≤ 64) (hm : m.toBitVec.toNat = 2 ^ k - 1) : lN a &&& m = lN (a % 2 ^ k) := by
  apply i64_ext
  apply BitVec.eq_of_toNat_eq
  rw [Int64.toBitVec_and, BitVec.toNat_and, lN_bv, lN_bv, BitVec.toNat_ofNat, BitVec.toNat_ofNat, hm, Nat.and_two_pow_sub_one_eq_mod]
  have e : (2 : Nat) ^ 64 = 2 ^ k * 2 ^ (64 - k) := by rw [← Nat.pow_add]; congr 1; omega
  have h1 : a % 2 ^ 64 % 2 ^ k = a % 2 ^ k := by rw [e, Nat.mod_mul_right_mod]
  have h2 : a % 2 ^ k % 2 ^ 64 = a % 2 ^ k := Nat.mod_eq_of_lt (Nat.lt_of_lt_of_le (Nat.mod_lt _ (Nat.two_pow_pos k)) (Nat.pow_le_pow_right (by decide) hk))
  rw [h1, h2]
theorem win_j {w b : Nat} (hb : b < 2) : ((lN w <<< (Int32.toInt64 1 &&& 63)) ||| Int32.toInt64 (nI b)) &&& 1099511627775 = lN ((2 * w + b) % 2 ^ 40) := by
  rw [lN_shor hb, lN_mask _ 1099511627775 40 (by decide) (by decide)]
theorem his_j {w b : Nat} (hb : b < 2) : ((lN w <<< (Int32.toInt64 1 &&& 63)) ||| Int32.toInt64 (nI b)) &&& 8796093022207 = lN ((2 * w + b) % 2 ^ 43) := by
  rw [lN_shor hb, lN_mask _ 8796093022207 43 (by decide) (by decide)]
theorem push_is {S : Nat → Nat} {o : Nat → Int32} {j : Int64} {b : Nat} (hb : b < 2) (h27 : S 27 < 2 ^ 32) (h28 : S 28 < 256) (h : cV S o j) : ∃ o' j', f_X10_push_24 o j (nI b) = some (o', j') ∧ cV (aPs b S) o' j' := by
  obtain ⟨h1, h2, h3⟩ := h
  have hw : S 27 * 256 + S 28 < 2 ^ 40 := by omega
  have ew : aPs b S 27 * 256 + aPs b S 28 = (2 * (S 27 * 256 + S 28) + b) % 2 ^ 40 := by
    show (2 * S 27 + S 28 / 128) % 2 ^ 32 * 256 + (2 * S 28 + b) % 256 = _
    omega
  have e5 : aPs b S 5 = S 5 + 1 := rfl
  have hx : xul (lN (S 27 * 256 + S 28)) 39 = lN ((S 27 * 256 + S 28) / 2 ^ 39) := xul_is (k := 39) (by omega) (by decide)
  have bod : ∀ (t : Int32) (y : Nat), t = nI y → y = (if S 27 * 256 + S 28 < 2 ^ 39 then 0 else 98) → ∃ o' j', b_X10_push_24_18 o j (nI b) t = some (o', j') ∧ cV (aPs b S) o' j' := by
    intro t y ht hy
    unfold b_X10_push_24_18
    rw [h1, timesX_is (rmod_lt _ _), Option.bind_some, h3, win_j hb, h2, ht, nI_xor, nI_xor, nI_1, hy, ← rmod_push hw hb, ← ew]
    exact ⟨_, _, rfl, rfl, rfl, rfl⟩
  unfold f_X10_push_24
  rw [h3, hx, ← h3]
  by_cases c : S 27 * 256 + S 28 < 2 ^ 39
  · have e : (S 27 * 256 + S 28) / 2 ^ 39 = 0 := by omega
    rw [if_pos ((lg_cmp_eq _ _).mpr (by rw [e]; rfl))]
    exact bod 0 0 rfl (by rw [if_pos c])
  · have e : (S 27 * 256 + S 28) / 2 ^ 39 = 1 := by omega
    rw [if_neg (fun z => by have := (lg_cmp_eq _ _).mp z; rw [e] at this; exact absurd this (by decide))]
    exact bod 98 98 rfl (by rw [if_neg c])
theorem sb_inj {a b : Nat} (ha : a < 256) (hb : b < 256) (h : sb a = sb b) : a = b := by
  have e : ∀ a, a < 256 → sb a &&& 255 = nI a := by decide +kernel
  have h1 := e a ha
  rw [h, e b hb] at h1
  exact ((nI_lt256 hb ha).mp h1).symm
theorem sb_push : ∀ y, y < 256 → ∀ b, b < 2 → Int8.toInt32 (Int32.toInt8 ((sb y <<< (1 &&& 31)) ||| nI b)) = sb ((2 * y + b) % 256) := by decide +kernel
