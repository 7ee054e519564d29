/-! checks: the remainder of a header, on both sides -/
theorem nI_bv (a : Nat) : (nI a).toBitVec = BitVec.ofNat 32 a := rfl
theorem i32_ext {a b : Int32} (h : a.toBitVec = b.toBitVec) : a = b := Int32.toBitVec_inj.mp h
theorem nI_xor (a b : Nat) : nI a ^^^ nI b = nI (a ^^^ b) := by
  apply i32_ext
  rw [Int32.toBitVec_xor, nI_bv, nI_bv, nI_bv]
  apply BitVec.eq_of_toNat_eq
  simp [Nat.xor_mod_two_pow]
theorem tx_lt {r : Nat} (h : r < 256) : tx r < 256 := by
  have : ∀ r, r < 256 → tx r < 256 := by decide +kernel
  exact this r h
theorem xor_lt256 {a b : Nat} (ha : a < 256) (hb : b < 256) : a ^^^ b < 256 := Nat.xor_lt_two_pow (n := 8) ha hb
theorem rmod_lt (k w : Nat) : rmod k w < 256 := by
  induction k generalizing w with
  | zero => exact (by decide : 0 < 256)
  | succ k ih => exact xor_lt256 (tx_lt (ih _)) (by omega)
theorem timesX_is {r : Nat} (h : r < 256) : f_X1_timesX (nI r) = some (nI (tx r)) := by
  have : ∀ r, r < 256 → f_X1_timesX (nI r) = some (nI (tx r)) := by decide +kernel
  exact this r h
theorem bit_is (x : Int32) {m : Nat} (hm : m < 32) : xus x (nI m) &&& 1 = nI (x.toBitVec.toNat / 2 ^ m % 2) := by
  have h1 := pk_ushr x (nI m) m (by
    have : ∀ m, m < 32 → (((nI m).toUInt32 &&& Int32.toUInt32 31).toBitVec % 32).toNat = m := by decide +kernel
    exact this m hm)
  have h2 := pk_and (xus x (nI m)) (m := 1) 1 (by decide)
  unfold xus at h2 ⊢
  rw [h2, h1]
/-- eight times x -/
def tx8 (r : Nat) : Nat := tx (tx (tx (tx (tx (tx (tx (tx r)))))))
theorem tx8_lt {r : Nat} (h : r < 256) : tx8 r < 256 := tx_lt (tx_lt (tx_lt (tx_lt (tx_lt (tx_lt (tx_lt (tx_lt h)))))))
theorem rep8 (r : Nat) : Nat.repeat tx 8 r = tx8 r := by simp only [Nat.repeat, tx8]
theorem nI_m1 (m : Nat) : nI (m + 1) + (-1) = nI m := pk_m1 m
theorem ofHeader_l5 (n : Nat) (x : Int32) : ∀ (m k : Nat), m ≤ 32 → m < k → l_X1_ofHeader_5 n x k (nI (rmod (32 - m) (x.toBitVec.toNat / 2 ^ m))) (nI m + (-1)) = some (nI (rmod 32 x.toBitVec.toNat), -1) := by
  intro m
  induction m with
  | zero =>
    intro k _ hk
    obtain ⟨k, rfl⟩ : ∃ q, k = q + 1 := ⟨k - 1, by omega⟩
    rw [l_X1_ofHeader_5, if_pos (by decide)]
    simp
    decide
  | succ m ih =>
    intro k hm hk
    obtain ⟨k, rfl⟩ : ∃ q, k = q + 1 := ⟨k - 1, by omega⟩
    rw [l_X1_ofHeader_5, nI_m1, if_neg (nI_pos (by omega)), timesX_is (rmod_lt _ _), Option.bind_some, bit_is x (by omega), nI_xor]
    have e : tx (rmod (32 - (m + 1)) (x.toBitVec.toNat / 2 ^ (m + 1))) ^^^ (x.toBitVec.toNat / 2 ^ m % 2) = rmod (32 - m) (x.toBitVec.toNat / 2 ^ m) := by
      rw [show 32 - m = (32 - (m + 1)) + 1 by omega]
      rw [rmod, Nat.div_div_eq_div_mul, Nat.pow_succ]
    rw [e]
    exact ih k (by omega) (by omega)
theorem ofHeader_l28 (n : Nat) : ∀ (m k r : Nat), m ≤ 8 → m < k → r < 256 → l_X1_ofHeader_28 n k (nI r) (nI (8 - m)) = some (nI (Nat.repeat tx m r), 8) := by
  intro m
  induction m with
  | zero =>
    intro k r _ hk hr
    obtain ⟨k, rfl⟩ : ∃ q, k = q + 1 := ⟨k - 1, by omega⟩
    rw [l_X1_ofHeader_28, if_pos (by decide)]
    rfl
  | succ m ih =>
    intro k r hm hk hr
    obtain ⟨k, rfl⟩ : ∃ q, k = q + 1 := ⟨k - 1, by omega⟩
    rw [l_X1_ofHeader_28, if_neg (by
      have : ∀ m, m < 8 → ¬ (8 : Int32) ≤ nI (8 - (m + 1)) := by decide +kernel
      exact this m (by omega)), timesX_is hr, Option.bind_some, nI_1, show 8 - (m + 1) + 1 = 8 - m by omega, ih k (tx r) (by omega) (by omega) (tx_lt hr)]
    have e : ∀ (m r : Nat), Nat.repeat tx m (tx r) = Nat.repeat tx (m + 1) r := by
      intro m
      induction m with
      | zero => intro r; rfl
      | succ m ih => intro r; show tx (Nat.repeat tx m (tx r)) = tx (Nat.repeat tx (m + 1) r); rw [ih]
    rw [e]
/-- the check of a header, told as a number -/
def chk (v : Nat) : Nat := tx8 (rmod 32 v) ^^^ 85
theorem ofHeader_is {n : Nat} (hn : 40 ≤ n) (x : Int32) : f_X1_ofHeader n x = some (nI (chk x.toBitVec.toNat)) := by
  unfold f_X1_ofHeader
  have h1 := ofHeader_l5 n x 32 n (Nat.le_refl _) (by omega)
  have h2 : x.toBitVec.toNat / 2 ^ 32 = 0 := Nat.div_eq_of_lt x.toBitVec.isLt
  rw [h2] at h1
  have h3 : (nI 32 + (-1) : Int32) = 31 := by decide
  rw [h3] at h1
  have h4 : nI (rmod (32 - 32) 0) = (0 : Int32) := by decide
  rw [h4] at h1
  rw [h1, Option.bind_some]
  have h5 := ofHeader_l28 n 8 n (rmod 32 x.toBitVec.toNat) (Nat.le_refl _) (by omega) (rmod_lt _ _)
  have h6 : nI (8 - 8) = (0 : Int32) := by decide
  rw [h6, rep8] at h5
  show Option.bind (l_X1_ofHeader_28 n n (nI (rmod 32 x.toBitVec.toNat)) 0) _ = _
  rw [h5, Option.bind_some]
  show some (nI (tx8 (rmod 32 x.toBitVec.toNat)) ^^^ nI 85) = _
  rw [nI_xor]
  rfl
theorem rest_step : ∀ r, r < 256 → ∀ b, b < 2 → (((((nI r >>> (7 &&& 31)) ^^^ nI b) &&& 1) = 1 → (((nI r <<< (1 &&& 31)) &&& 255) ^^^ 7) = nI (tx r ^^^ (7 * b))) ∧ (¬ ((((nI r >>> (7 &&& 31)) ^^^ nI b) &&& 1) = 1) → ((nI r <<< (1 &&& 31)) &&& 255) = nI (tx r ^^^ (7 * b)))) := by decide +kernel
theorem tx8_step : ∀ r, r < 256 → ∀ b, b < 2 → tx8 (tx r ^^^ b) = tx (tx8 r) ^^^ (7 * b) := by decide +kernel
theorem restOf_l5 (n : Nat) (x : Int32) : ∀ (m k : Nat), m ≤ 32 → m < k → l_X12_restOf_5 n x k (nI (tx8 (rmod (32 - m) (x.toBitVec.toNat / 2 ^ m)))) (nI m + (-1)) = some (nI (tx8 (rmod 32 x.toBitVec.toNat)), -1) := by
  intro m
  induction m with
  | zero =>
    intro k _ hk
    obtain ⟨k, rfl⟩ : ∃ q, k = q + 1 := ⟨k - 1, by omega⟩
    rw [l_X12_restOf_5, if_pos (by decide)]
    simp
    decide
  | succ m ih =>
    intro k hm hk
    obtain ⟨k, rfl⟩ : ∃ q, k = q + 1 := ⟨k - 1, by omega⟩
    have hr := rmod_lt (32 - (m + 1)) (x.toBitVec.toNat / 2 ^ (m + 1))
    have hb : x.toBitVec.toNat / 2 ^ m % 2 < 2 := Nat.mod_lt _ (by decide)
    have e : tx8 (rmod (32 - m) (x.toBitVec.toNat / 2 ^ m)) = tx (tx8 (rmod (32 - (m + 1)) (x.toBitVec.toNat / 2 ^ (m + 1)))) ^^^ (7 * (x.toBitVec.toNat / 2 ^ m % 2)) := by
      rw [← tx8_step _ hr _ hb, show 32 - m = (32 - (m + 1)) + 1 by omega, rmod, Nat.div_div_eq_div_mul, Nat.pow_succ]
    obtain ⟨s1, s2⟩ := rest_step _ (tx8_lt hr) _ hb
    have ih := ih k (by omega) (by omega)
    rw [e] at ih
    rw [l_X12_restOf_5, nI_m1, if_neg (nI_pos (by omega)), bit_is x (by omega)]
    by_cases c : (((nI (tx8 (rmod (32 - (m + 1)) (x.toBitVec.toNat / 2 ^ (m + 1)))) >>> (7 &&& 31)) ^^^ nI (x.toBitVec.toNat / 2 ^ m % 2)) &&& 1) = 1
    · rw [if_pos c, s1 c]; exact ih
    · rw [if_neg c, s2 c]; exact ih
theorem restOf_is {n : Nat} (hn : 40 ≤ n) (x : Int32) : f_X12_restOf n x = some (nI (tx8 (rmod 32 x.toBitVec.toNat))) := by
  unfold f_X12_restOf
  have h1 := restOf_l5 n x 32 n (Nat.le_refl _) (by omega)
  have h2 : x.toBitVec.toNat / 2 ^ 32 = 0 := Nat.div_eq_of_lt x.toBitVec.isLt
  rw [h2] at h1
  have h3 : (nI 32 + (-1) : Int32) = 31 := by decide
  rw [h3] at h1
  have h4 : nI (tx8 (rmod (32 - 32) 0)) = (0 : Int32) := by decide
  rw [h4] at h1
  rw [h1, Option.bind_some]
theorem checkOf_is {n : Nat} (hn : 40 ≤ n) (x : Int32) : f_X12_checkOf n x = some (nI (chk x.toBitVec.toNat)) := by
  unfold f_X12_checkOf
  rw [restOf_is hn, Option.bind_some]
  show some (nI _ ^^^ nI 85) = _
  rw [nI_xor]
  rfl
theorem isByte_is (x : Int32) : f_X11_isByte x = f_X11_isWithin x 0 255 := rfl
