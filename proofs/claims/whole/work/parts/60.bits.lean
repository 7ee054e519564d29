/-! bits of longs -/
theorem i64_ext {a b : Int64} (h : a.toBitVec = b.toBitVec) : a = b := Int64.toBitVec_inj.mp h
theorem lN_bv (a : Nat) : (lN a).toBitVec = BitVec.ofNat 64 a := rfl
theorem lN_tn {a : Nat} (h : a < 2 ^ 64) : (lN a).toBitVec.toNat = a := Nat.mod_eq_of_lt h
theorem xul_k : ∀ k, k < 64 → (((nI k).toInt64.toUInt64 &&& Int64.toUInt64 63).toBitVec % 64).toNat = k := by decide +kernel
theorem xul_tn (x : Int64) {k : Nat} (hk : k < 64) : (xul x (nI k)).toBitVec.toNat = x.toBitVec.toNat / 2 ^ k := by
  have e : (xul x (nI k)).toBitVec = x.toBitVec >>> k := by
    conv => rhs; rw [← xul_k k hk]
    exact UInt64.toBitVec_shiftRight _ _
  rw [e, BitVec.toNat_ushiftRight, Nat.shiftRight_eq_div_pow]
theorem xul_is {a k : Nat} (ha : a < 2 ^ 64) (hk : k < 64) : xul (lN a) (nI k) = lN (a / 2 ^ k) := by
  apply i64_ext
  apply BitVec.eq_of_toNat_eq
  rw [xul_tn _ hk, lN_tn ha, lN_tn (Nat.lt_of_le_of_lt (Nat.div_le_self _ _) ha)]
theorem nI_mod (a : Nat) : nI (a % 2 ^ 32) = nI a := by
  apply i32_ext
  apply BitVec.eq_of_toNat_eq
  rw [nI_bv, nI_bv, BitVec.toNat_ofNat, BitVec.toNat_ofNat, Nat.mod_mod]
theorem nI_tn (a : Nat) : (nI a).toBitVec.toNat = a % 2 ^ 32 := rfl
theorem nI_and1 (a : Nat) : nI a &&& 1 = nI (a % 2) := by
  rw [pk_and (nI a) (m := 1) 1 (by decide), nI_tn]
  congr 1
  omega
/-- one of 43 bits: out of the long, and out of the two ints -/
theorem bit43_c {h k : Nat} (hh : h < 2 ^ 43) (hk : k < 43) : Int64.toInt32 (xul (lN h) (nI k)) &&& 1 = nI (h / 2 ^ k % 2) := by
  rw [xul_is (by omega) (by omega), lN_i, nI_and1]
theorem bit43_h {h k : Nat} (hh : h < 2 ^ 43) (h1 : 32 ≤ k) (hk : k < 43) : xus (nI (h / 2 ^ 32)) (nI k - 32) &&& 1 = nI (h / 2 ^ k % 2) := by
  have e : nI k - 32 = nI (k - 32) := pk_sub (a := k) (b := 32) h1
  rw [e, bit_is _ (by omega), pk_tn (by omega), Nat.div_div_eq_div_mul, ← Nat.pow_add, show 32 + (k - 32) = k by omega]
theorem bit43_l {h k : Nat} (hk : k < 32) : xus (nI h) (nI k) &&& 1 = nI (h / 2 ^ k % 2) := by
  rw [bit_is _ hk, nI_tn]
  congr 1
  have e : 2 ^ 32 = 2 ^ k * 2 ^ (32 - k) := by rw [← Nat.pow_add, show k + (32 - k) = 32 by omega]
  rw [e, Nat.mod_mul_right_div_self]
  have e2 : 2 ^ (32 - k) = 2 * 2 ^ (31 - k) := by rw [show 32 - k = (31 - k) + 1 by omega, Nat.pow_succ]; omega
  rw [e2, Nat.mod_mul_right_mod]
theorem stage_m {h k : Nat} {e l : Int32} {j : Int64} (hh : i43 h j e l) (hk : k < 43) (o44 a51 : Nat → Int32) : b_X12_stage_44_67 o44 a51 (nI k) e l = some (nI (h / 2 ^ k % 2), o44) := by
  obtain ⟨h1, h2, rfl, rfl⟩ := hh
  unfold b_X12_stage_44_67
  by_cases c : 32 ≤ k
  · have c2 : (32 : Int32) ≤ nI k := nI_le (a := 32) c (by omega)
    rw [if_pos c2, bit43_h h1 c hk]
  · have c2 : ¬ (32 : Int32) ≤ nI k := nI_ge (a := k) (b := 32) (by omega) (by decide)
    rw [if_neg c2, bit43_l (by omega)]
theorem k_stage {hs h : Nat} {o4 o16 o44 a51 : Nat → Int32} {j5 j19 : Int64} (h1 : i43 hs j5 (o44 8) (o44 9)) (h2 : i43 h j19 (a51 29) (a51 30)) (p1 p2 : Int32) : ∃ a, f_X11_stage_0 o4 j5 o16 j19 p1 p2 = some a ∧ f_X12_stage_44 o44 a51 p1 p2 = some (a, upd o44 0 0) := by
  unfold f_X11_stage_0 f_X12_stage_44
  rw [isW, isIn_w p1 0 1 0 1 rfl rfl, isW, isIn_w p2 0 42 0 42 rfl rfl]
  simp only [Option.bind_some]
  by_cases c : 0 ≤ p1 ∧ p1 ≤ 1
  · rw [if_pos c, if_neg one_ne, if_neg one_ne]
    by_cases c3 : 0 ≤ p2 ∧ p2 ≤ 42
    · rw [if_pos c3, if_neg one_ne, if_neg one_ne]
      obtain ⟨k, -, hk, rfl⟩ := i32_in (a := 0) (b := 42) (by decide) c3 (by decide)
      by_cases c5 : p1 = 0
      · rw [if_pos c5, if_pos c5]
        unfold b_X12_stage_44_48
        rw [if_pos c5]
        refine ⟨_, rfl, ?_⟩
        rw [show upd o44 0 0 9 = o44 9 from rfl, stage_m h1 (by omega), h1.2.1, bit43_c h1.1 (by omega)]
      · rw [if_neg c5, if_neg c5]
        unfold b_X12_stage_44_48
        rw [if_neg c5]
        refine ⟨_, rfl, ?_⟩
        rw [stage_m h2 (by omega), h2.2.1, bit43_c h2.1 (by omega)]
    · rw [if_neg c3, if_pos rfl, if_pos rfl]
      exact ⟨_, rfl, rfl⟩
  · rw [if_neg c, if_pos rfl, if_pos rfl]
    exact ⟨_, rfl, rfl⟩
