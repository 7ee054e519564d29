/-! one more, by so much -/
theorem nI_int {a : Nat} (h : a < 2 ^ 31) : (nI a).toInt = a := Int32.toInt_ofNat_of_lt h
theorem nm_i2d {a : Nat} (h0 : 0 < a) (h : a ≤ 512) : ∃ c q, nm (FP.i2d (nI a)) c q ∧ -52 ≤ q ∧ q ≤ -43 := by
  refine rr64 (A := a) (B := 1) (e := 0) ?_ (by decide) (by decide) (by decide) (by decide) (by decide) ?_ ?_
  · show FP.Core.val64 (FP.Core.i2d (nI a)) = _
    rw [FP.Core.val64_i2d, nI_int (by omega)]
    show FP.Core.roundRatio FP.Core.b64 (decide ((a : Int) < 0)) (a : Int).natAbs 1 0 = _
    rw [decide_eq_false (by omega), Int.natAbs_natCast]
  · rw [Nat.mul_one, show ((-52 : Int) + 3000).toNat = 2948 from rfl, show ((0 : Int) + 3000).toNat = 2948 + 52 from rfl, Nat.pow_add, ← Nat.mul_assoc, Nat.mul_right_comm]
    exact Nat.mul_le_mul_right _ (by omega)
  · rw [Nat.mul_one, show ((-43 : Int) + 3000).toNat = 2948 + 9 from rfl, show ((0 : Int) + 3000).toNat = 2948 + 52 from rfl, Nat.pow_add, Nat.pow_add]
    generalize 2 ^ 2948 = z
    rw [Nat.mul_comm z (2 ^ 52), Nat.mul_comm z (2 ^ 9), ← Nat.mul_assoc, ← Nat.mul_assoc]
    exact Nat.mul_le_mul_right _ (by omega)
theorem nm_256 : nm 4643211215818981376 4503599627370496 (-44) := ⟨by decide +kernel, by decide, by decide, by decide, by decide⟩
theorem sum_e (c : Nat) (q : Int) : FP.Core.exactSum (.fin false c q) (.fin false 4503599627370496 (-52)) = .fin false (c * 2 ^ (q - min q (-52)).toNat + 4503599627370496 * 2 ^ (-52 - min q (-52)).toNat) (min q (-52)) := by
  show FP.Core.Datum.fin (FP.Core.sumSign false false (FP.Core.sumUnits false c q false 4503599627370496 (-52) (min q (-52)))) (FP.Core.sumUnits false c q false 4503599627370496 (-52) (min q (-52))).natAbs (min q (-52)) = _
  have : FP.Core.sumUnits false c q false 4503599627370496 (-52) (min q (-52)) = ((c * 2 ^ (q - min q (-52)).toNat + 4503599627370496 * 2 ^ (-52 - min q (-52)).toNat : Nat) : Int) := by
    show ((c * 2 ^ (q - min q (-52)).toNat : Nat) : Int) + ((4503599627370496 * 2 ^ (-52 - min q (-52)).toNat : Nat) : Int) = _
    rw [← Int.natCast_add]
  rw [this, Int.natAbs_natCast]
  generalize c * 2 ^ (q - min q (-52)).toNat + 4503599627370496 * 2 ^ (-52 - min q (-52)).toNat = z
  have hs : FP.Core.sumSign false false (z : Int) = false := by
    unfold FP.Core.sumSign
    simp
  rw [hs]
theorem nm_inc {v : UInt64} {c : Nat} {q : Int} (h : nm v c q) (h1 : -100 ≤ q) (h2 : q ≤ 500) : ∃ d r, nm (FP.dadd v 4607182418800017408) d r ∧ -52 ≤ r ∧ r ≤ max q (-52) + 2 := by
  obtain ⟨a1, a2, a3, a4, a5⟩ := h
  refine rr64 (A := c * 2 ^ (q - min q (-52)).toNat + 4503599627370496 * 2 ^ (-52 - min q (-52)).toNat) (B := 1) (e := min q (-52)) ?_ (by decide) (by omega) (by omega) (by omega) (by omega) ?_ ?_
  · show FP.Core.val64 (FP.Core.dadd v 4607182418800017408) = _
    rw [FP.Core.val64_dadd, a1, v_one, sum_e]
    rfl
  · rw [Nat.mul_one, Nat.add_mul, Nat.mul_assoc 4503599627370496, ← Nat.pow_add]
    refine Nat.le_trans ?_ (Nat.le_add_left _ _)
    exact Nat.le_of_eq (congrArg (fun z => 4503599627370496 * 2 ^ z) (by omega))
  · rw [Nat.mul_one, Nat.add_mul, Nat.mul_assoc 4503599627370496, Nat.mul_assoc c, ← Nat.pow_add, ← Nat.pow_add, show (max q (-52) + 2 + 3000).toNat = (max q (-52) + 3000).toNat + 2 by omega, Nat.pow_add 2 (max q (-52) + 3000).toNat 2]
    have k1 : 2 ^ ((q - min q (-52)).toNat + (min q (-52) + 3000).toNat) ≤ 2 ^ (max q (-52) + 3000).toNat := Nat.pow_le_pow_right (by decide) (by omega)
    have k2 : 2 ^ ((-52 - min q (-52)).toNat + (min q (-52) + 3000).toNat) ≤ 2 ^ (max q (-52) + 3000).toNat := Nat.pow_le_pow_right (by decide) (by omega)
    generalize 2 ^ ((q - min q (-52)).toNat + (min q (-52) + 3000).toNat) = x at k1 ⊢
    generalize 2 ^ ((-52 - min q (-52)).toNat + (min q (-52) + 3000).toNat) = y at k2 ⊢
    generalize 2 ^ (max q (-52) + 3000).toNat = z at k1 k2 ⊢
    have l1 := Nat.mul_le_mul (Nat.le_of_lt a3) k1
    have l2 := Nat.mul_le_mul_left 4503599627370496 k2
    omega
def fine (w : UInt64) (i : Nat) : Prop := w = 0 ∨ ∃ c q, nm w c q ∧ -60 ≤ q ∧ q ≤ -40 + 12 * (i : Int)
theorem one_0 : FP.dadd 0 4607182418800017408 = 4607182418800017408 := by decide +kernel
theorem fine_s {w l : UInt64} {i c : Nat} {q : Int} (h : fine w i) (hi : i ≤ 20) (hl : nm l c q) (h1 : -61 ≤ q) (h2 : q ≤ -50) : xn64 (FP.dadd w 4607182418800017408) = true ∧ xn64 (FP.ddiv (FP.dadd w 4607182418800017408) l) = true ∧ fine (FP.ddiv (FP.dadd w 4607182418800017408) l) (i + 1) := by
  rcases h with rfl | ⟨d, r, hw, r1, r2⟩
  · rw [one_0]
    obtain ⟨d, r, hd, r1, r2⟩ := nm_div nm_one hl (by omega) (by omega)
    exact ⟨nm_x nm_one, nm_x hd, Or.inr ⟨d, r, hd, by omega, by omega⟩⟩
  · obtain ⟨d2, s, hs, s1, s2⟩ := nm_inc hw (by omega) (by omega)
    obtain ⟨d3, t, ht, t1, t2⟩ := nm_div hs hl (by omega) (by omega)
    exact ⟨nm_x hs, nm_x ht, Or.inr ⟨d3, t, ht, by omega, by omega⟩⟩
theorem fine_b {w : UInt64} {i n : Nat} (h : fine w i) (hi : i ≤ 20) (hn : 2000 ≤ n) : ∃ z, f_X0_ofDouble n w = some z ∧ f_X12_bitsOf n w 52 1023 = some z := by
  rcases h with rfl | ⟨d, r, hw, r1, r2⟩
  · exact ⟨0, od_z, bz_is _ _⟩
  · exact ⟨_, od_is hn hw (by omega) (by omega), bd_is hn hw (by omega) (by omega)⟩
