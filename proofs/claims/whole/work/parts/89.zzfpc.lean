theorem od18 {n : Nat} : ∀ (m k j x : Nat) (v : UInt64) {c : Nat}, m < k → nm v c (-52 + (m : Int)) → j + m < 1000 → ∃ w, nm w c (-52) ∧ l_X0_ofDouble_18 n k v (lN x) (nI j) = some (w, lN (x + m), nI (j + m)) := by
  intro m
  induction m with
  | zero =>
    intro k j x v c hk h hj
    obtain ⟨k, rfl⟩ : ∃ i, k = i + 1 := ⟨k - 1, by omega⟩
    refine ⟨v, by simpa using h, ?_⟩
    unfold l_X0_ofDouble_18
    rw [if_neg (show ¬ (1023:Int32) ≤ nI j from nI_ge (a := j) (b := 1023) (by omega) (by decide)), nm_cl h nm_two (by omega), if_pos (by decide)]
    rfl
  | succ m ih =>
    intro k j x v c hk h hj
    obtain ⟨k, rfl⟩ : ∃ i, k = i + 1 := ⟨k - 1, by omega⟩
    have h2 := nm_hlv h (by omega)
    obtain ⟨w, e1, e2⟩ := ih k (j + 1) (x + 1) (FP.ddiv v 4611686018427387904) (c := c) (by omega) (by
      have e : (-52 + ((m + 1 : Nat) : Int) - 1) = -52 + (m : Int) := by omega
      rw [e] at h2
      exact h2) (by omega)
    refine ⟨w, e1, ?_⟩
    unfold l_X0_ofDouble_18
    have h3 := h.2.1
    have hc := nm_cg h nm_two (by omega) CmpOp.l
    rw [if_neg (show ¬ (1023:Int32) ≤ nI j from nI_ge (a := j) (b := 1023) (by omega) (by decide)), if_neg (by rcases hc with e | e <;> rw [e] <;> decide), nm_x h2]
    show l_X0_ofDouble_18 n k (FP.ddiv v 4611686018427387904) (lN x + lN 1) (nI j + nI 1) = _
    rw [lN_add, nI_add, e2, show x + 1 + m = x + (m + 1) by omega, show j + 1 + m = j + (m + 1) by omega]
theorem lN_dec (x : Nat) : lN (x + 1) - 1 = lN x := by
  rw [← lN_add x 1]
  show lN x + 1 - 1 = lN x
  exact Int64.add_sub_cancel _ _
theorem od55 {n : Nat} : ∀ (m k j x : Nat) (v : UInt64) {c : Nat}, m < k → nm v c (-52 - (m : Int)) → j + m < 1000 → ∃ w, nm w c (-52) ∧ l_X0_ofDouble_55 n k v (lN (x + m)) (nI j) = some (w, lN x, nI (j + m)) := by
  intro m
  induction m with
  | zero =>
    intro k j x v c hk h hj
    obtain ⟨k, rfl⟩ : ∃ i, k = i + 1 := ⟨k - 1, by omega⟩
    refine ⟨v, by simpa using h, ?_⟩
    unfold l_X0_ofDouble_55
    have hc := nm_cg h nm_one (Or.inr ⟨by omega, h.2.1⟩) CmpOp.g
    rw [if_neg (show ¬ (1022:Int32) ≤ nI j from nI_ge (a := j) (b := 1022) (by omega) (by decide)), if_pos (by rcases hc with e | e <;> rw [e] <;> decide)]
    rfl
  | succ m ih =>
    intro k j x v c hk h hj
    obtain ⟨k, rfl⟩ : ∃ i, k = i + 1 := ⟨k - 1, by omega⟩
    have h2 := nm_dbl h (by omega)
    obtain ⟨w, e1, e2⟩ := ih k (j + 1) x (FP.dmul v 4611686018427387904) (c := c) (by omega) (by
      have e : (-52 - ((m + 1 : Nat) : Int) + 1) = -52 - (m : Int) := by omega
      rw [e] at h2
      exact h2) (by omega)
    refine ⟨w, e1, ?_⟩
    unfold l_X0_ofDouble_55
    rw [if_neg (show ¬ (1022:Int32) ≤ nI j from nI_ge (a := j) (b := 1022) (by omega) (by decide)), nm_cl h nm_one (by omega), if_neg (by decide), nm_x h2]
    show l_X0_ofDouble_55 n k (FP.dmul v 4611686018427387904) (lN (x + m + 1) - 1) (nI j + nI 1) = _
    rw [lN_dec, nI_add, e2, show j + 1 + m = j + (m + 1) by omega]
theorem d2l_z {v : UInt64} {T : Nat} (h : FP.Core.val64 v ≠ .nan) (hs : FP.Core.sgn (FP.Core.val64 v) = false) (hz : FP.Core.zmag FP.Core.b64 (FP.Core.val64 v) / FP.Core.one64 = T) (hT : T < 2 ^ 63) : FP.d2l v = lN T := by
  have e := FP.Core.d2l_val h
  rw [hs, hz] at e
  refine Int64.toInt.inj ?_
  show (FP.Core.d2l v).toInt = _
  rw [e, lN_int hT]
  show max (-2 ^ 63) (min (2 ^ 63 - 1) (T : Int)) = (T : Int)
  omega
theorem nm_d2l {v : UInt64} {c : Nat} {m : Nat} (h : nm v c (-(m : Int))) (hm : m ≤ 52) : FP.d2l v = lN (c / 2 ^ m) := by
  refine d2l_z (nm_nn h) (by rw [h.1]; rfl) ?_ ?_
  · rw [h.1]
    show c * 2 ^ (-(m : Int) - FP.Core.b64.qmin).toNat / 2 ^ 1074 = _
    rw [show FP.Core.b64.qmin = -1074 by decide, show (-(m : Int) - -1074).toNat = 1074 - m by omega]
    have : 2 ^ 1074 = 2 ^ (1074 - m) * 2 ^ m := by rw [← Nat.pow_add]; congr 1; omega
    rw [this, Nat.mul_comm c, Nat.mul_div_mul_left _ _ (Nat.two_pow_pos _)]
  · have := h.2.2.1
    have := Nat.div_le_self c (2 ^ m)
    omega
theorem sub_one {v : UInt64} {c : Nat} (h : nm v c (-52)) : ∃ d r, FP.Core.val64 (FP.dsub v 4607182418800017408) = .fin false d r ∧ d * 2 ^ (r + 1074).toNat = (c - 4503599627370496) * 2 ^ 1022 ∧ -1074 ≤ r := by
  obtain ⟨a1, a2, a3, a4, a5⟩ := h
  have e : FP.Core.val64 (FP.Core.dsub v 4607182418800017408) = FP.Core.round FP.Core.b64 (.fin false (c - 4503599627370496) (-52)) := by
    rw [FP.Core.val64_dsub, a1, v_one]
    congr 1
    show FP.Core.Datum.fin (FP.Core.sumSign false true (FP.Core.sumUnits false c (-52) true 4503599627370496 (-52) (-52))) (FP.Core.sumUnits false c (-52) true 4503599627370496 (-52) (-52)).natAbs (-52) = _
    have : FP.Core.sumUnits false c (-52) true 4503599627370496 (-52) (-52) = ((c - 4503599627370496 : Nat) : Int) := by
      show ((c * 2 ^ 0 : Nat) : Int) + -((4503599627370496 * 2 ^ 0 : Nat) : Int) = _
      omega
    rw [this, Int.natAbs_natCast]
    generalize c - 4503599627370496 = z
    have hs : FP.Core.sumSign false true (z : Int) = false := by
      unfold FP.Core.sumSign
      simp
    rw [hs]
  obtain ⟨d, r, e1, e2⟩ := FP.Core.round_exact FP.Core.good_b64 false (c := c - 4503599627370496) (q := -52) (show c - 4503599627370496 < 2 ^ 53 by omega) (by decide) (by decide)
  have hf := FP.Core.val64_fits (FP.Core.dsub v 4607182418800017408)
  rw [e, e1] at hf
  obtain ⟨f1, f2, f3, f4⟩ := hf
  have q1 : FP.Core.b64.qmin = -1074 := by decide
  rw [q1] at f2
  refine ⟨d, r, e.trans e1, ?_, f2⟩
  have e2 : d * 2 ^ (r - FP.Core.b64.qmin).toNat = (c - 4503599627370496) * 2 ^ (-52 - FP.Core.b64.qmin).toNat := e2
  rw [q1, show (r - -1074).toNat = (r + 1074).toNat by omega] at e2
  exact e2
theorem v_p52 : FP.Core.val64 4841369599423283200 = .fin false 4503599627370496 0 := by decide +kernel
theorem mul_p52 {v : UInt64} {T : Nat} {d : Nat} {r : Int} (h : FP.Core.val64 v = .fin false d r) (hd : d * 2 ^ (r + 1074).toNat = T * 2 ^ 1022) (hr : -1074 ≤ r) (hT : T < 4503599627370496) : FP.Core.val64 (FP.dmul v 4841369599423283200) ≠ .nan ∧ FP.d2l (FP.dmul v 4841369599423283200) = lN T := by
  have e : FP.Core.val64 (FP.Core.dmul v 4841369599423283200) = FP.Core.round FP.Core.b64 (.fin false T 0) := by
    rw [FP.Core.val64_dmul, h, v_p52]
    show FP.Core.roundRatio FP.Core.b64 false (d * 4503599627370496) 1 (r + 0) = FP.Core.roundRatio FP.Core.b64 false T 1 0
    refine FP.Core.roundRatio_congr (by decide) (by decide) ?_
    rw [Nat.mul_one, Nat.mul_one, Int.add_zero, Int.sub_zero, Int.zero_sub]
    have k : d * 2 ^ (r + 1074).toNat * 2 ^ 52 * 2 ^ (-r).toNat = T * 2 ^ 1022 * 2 ^ 52 * 2 ^ (-r).toNat := by rw [hd]
    refine Nat.eq_of_mul_eq_mul_right (Nat.two_pow_pos 1074) ?_
    have l1 : d * 4503599627370496 * 2 ^ r.toNat * 2 ^ 1074 = d * 2 ^ (r + 1074).toNat * 2 ^ 52 * 2 ^ (-r).toNat := by
      rw [show (4503599627370496 : Nat) = 2 ^ 52 from rfl, Nat.mul_assoc, Nat.mul_assoc, Nat.mul_assoc, Nat.mul_assoc, ← Nat.pow_add, ← Nat.pow_add, ← Nat.pow_add, ← Nat.pow_add]
      exact congrArg (fun z => d * 2 ^ z) (by omega)
    have l2 : T * 2 ^ 1022 * 2 ^ 52 * 2 ^ (-r).toNat = T * 2 ^ (-r).toNat * 2 ^ 1074 := by
      rw [Nat.mul_assoc, Nat.mul_assoc, Nat.mul_assoc, ← Nat.pow_add, ← Nat.pow_add, ← Nat.pow_add]
      exact congrArg (fun z => T * 2 ^ z) (by omega)
    rw [l1, k, l2]
  obtain ⟨d2, r2, e1, e2⟩ := FP.Core.round_exact FP.Core.good_b64 false (c := T) (q := 0) (show T < 2 ^ 53 by omega) (by decide) (by decide)
  have ev := e.trans e1
  have hn : FP.Core.val64 (FP.dmul v 4841369599423283200) ≠ .nan := by
    show FP.Core.val64 (FP.Core.dmul v 4841369599423283200) ≠ .nan
    rw [ev]
    exact nn_fin
  refine ⟨hn, d2l_z hn ?_ ?_ (by omega)⟩
  · show FP.Core.sgn (FP.Core.val64 (FP.Core.dmul v 4841369599423283200)) = _
    rw [ev]
    rfl
  · show FP.Core.zmag FP.Core.b64 (FP.Core.val64 (FP.Core.dmul v 4841369599423283200)) / _ = _
    rw [ev]
    show FP.Core.inUnits d2 r2 FP.Core.b64.qmin / _ = _
    rw [e2]
    show T * 2 ^ (0 - FP.Core.b64.qmin).toNat / 2 ^ 1074 = T
    rw [show (0 - FP.Core.b64.qmin).toNat = 1074 by decide]
    exact Nat.mul_div_cancel _ (Nat.two_pow_pos _)
theorem lN_shl52 (x : Nat) : lN x <<< (Int32.toInt64 52 &&& 63) = lN (x * 4503599627370496) := by
  apply i64_ext
  apply BitVec.eq_of_toNat_eq
  have h : (Int32.toInt64 52 &&& 63 : Int64) = 52 := by decide
  have e : (lN x <<< (Int32.toInt64 52 &&& 63)).toBitVec = (lN x).toBitVec <<< 52 := by rw [h]; rfl
  rw [e, BitVec.toNat_shiftLeft, lN_bv, lN_bv, BitVec.toNat_ofNat, BitVec.toNat_ofNat, Nat.shiftLeft_eq]
  omega
theorem lN_shl23 (x : Nat) : lN x <<< (Int32.toInt64 23 &&& 63) = lN (x * 8388608) := by
  apply i64_ext
  apply BitVec.eq_of_toNat_eq
  have h : (Int32.toInt64 23 &&& 63 : Int64) = 23 := by decide
  have e : (lN x <<< (Int32.toInt64 23 &&& 63)).toBitVec = (lN x).toBitVec <<< 23 := by rw [h]; rfl
  rw [e, BitVec.toNat_shiftLeft, lN_bv, lN_bv, BitVec.toNat_ofNat, BitVec.toNat_ofNat, Nat.shiftLeft_eq]
  omega
theorem or52 {a b : Nat} (ha : a < 4503599627370496) : b * 4503599627370496 ||| a = b * 4503599627370496 + a := by
  have h := Nat.shiftLeft_add_eq_or_of_lt (b := a) (i := 52) ha b
  rw [Nat.shiftLeft_eq] at h
  exact h.symm
theorem or23 {a b : Nat} (ha : a < 8388608) : b * 8388608 ||| a = b * 8388608 + a := by
  have h := Nat.shiftLeft_add_eq_or_of_lt (b := a) (i := 23) ha b
  rw [Nat.shiftLeft_eq] at h
  exact h.symm
theorem od18z {n k j : Nat} {v : UInt64} {c : Nat} {q : Int} (hk : 0 < k) (h : nm v c q) (hq : q < -51) (hj : j < 1000) (x : Int64) : l_X0_ofDouble_18 n k v x (nI j) = some (v, x, nI j) := by
  obtain ⟨k, rfl⟩ : ∃ i, k = i + 1 := ⟨k - 1, by omega⟩
  unfold l_X0_ofDouble_18
  rw [if_neg (show ¬ (1023:Int32) ≤ nI j from nI_ge (a := j) (b := 1023) (by omega) (by decide)), nm_cl h nm_two (by omega), if_pos (by decide)]
def dbits (c : Nat) (q : Int) : Nat := (q + 1075).toNat * 4503599627370496 + (c - 4503599627370496)
theorem dbits_d (c : Nat) (q : Int) : dbits c q = (q + 1075).toNat * 4503599627370496 + (c - 4503599627370496) := by with_unfolding_all rfl
theorem ob_is {n c x : Nat} {v : UInt64} (h : nm v c (-52)) : b_X0_ofDouble_87 n v (lN x) = some (lN (x * 4503599627370496 + (c - 4503599627370496))) := by
  unfold b_X0_ofDouble_87
  obtain ⟨d, r, e1, e2, e3⟩ := sub_one h
  have a3 := h.2.2.1
  obtain ⟨m1, m2⟩ := mul_p52 e1 e2 e3 (by omega)
  rw [xn64_t (show FP.Core.val64 (FP.dsub v 4607182418800017408) ≠ .nan by rw [e1]; exact nn_fin), xn64_t m1, m2, lN_shl52, lN_or, or52 (by omega)]
  rfl
theorem od_is {n c : Nat} {q : Int} {v : UInt64} (hn : 2000 ≤ n) (h : nm v c q) (h1 : -900 ≤ q) (h2 : q ≤ 800) : f_X0_ofDouble n v = some (lN (dbits c q)) := by
  unfold f_X0_ofDouble
  rw [nm_c0 h, if_pos (by decide)]
  show Option.bind (l_X0_ofDouble_18 n n v (lN 1023) (nI 0)) _ = _
  by_cases hq : -52 ≤ q
  · obtain ⟨w, e1, e2⟩ := od18 (n := n) (q + 52).toNat n 0 1023 v (c := c) (by omega) (by rw [show (-52 + ((q + 52).toNat : Int)) = q by omega]; exact h) (by omega)
    rw [e2]
    show b_X0_ofDouble_52 n w (lN (1023 + (q + 52).toNat)) = _
    unfold b_X0_ofDouble_52
    obtain ⟨w2, e3, e4⟩ := od55 (n := n) 0 n 0 (1023 + (q + 52).toNat) w (c := c) (by omega) (by simpa using e1) (by omega)
    rw [Nat.add_zero (1023 + (q + 52).toNat)] at e4
    rw [show (0 : Int32) = nI 0 from rfl, e4]
    show b_X0_ofDouble_87 n w2 (lN (1023 + (q + 52).toNat)) = _
    rw [ob_is e3, dbits_d, show 1023 + (q + 52).toNat = (q + 1075).toNat by omega]
  · rw [od18z (by omega) h (by omega) (by decide)]
    show b_X0_ofDouble_52 n v (lN 1023) = _
    unfold b_X0_ofDouble_52
    obtain ⟨w2, e3, e4⟩ := od55 (n := n) (-52 - q).toNat n 0 (q + 1075).toNat v (c := c) (by omega) (by rw [show (-52 - ((-52 - q).toNat : Int)) = q by omega]; exact h) (by omega)
    rw [show (q + 1075).toNat + (-52 - q).toNat = 1023 by omega] at e4
    rw [show (0 : Int32) = nI 0 from rfl, e4]
    show b_X0_ofDouble_87 n w2 (lN (q + 1075).toNat) = _
    rw [ob_is e3, dbits_d]
theorem od_z {n : Nat} : f_X0_ofDouble n 0 = some 0 := by
  unfold f_X0_ofDouble
  rw [c00, if_neg (by decide)]
theorem bz_is {n : Nat} (p1 p2 : Int32) : f_X12_bitsOf n 0 p1 p2 = some 0 := by
  unfold f_X12_bitsOf
  rw [c00, if_pos rfl]
theorem bo14 {n : Nat} {a b : Int32} : ∀ (m k : Nat) (v : UInt64) (x : Int32) (y : Nat) {c : Nat}, m < k → m < 1000 → nm v c (-52 - (m : Int)) → b + x = nI (y + m) → ∃ w z, nm w c (-52) ∧ b + z = nI y ∧ l_X12_bitsOf_14 n a b k v x = some (w, z) := by
  intro m
  induction m with
  | zero =>
    intro k v x y c hk hm h hx
    obtain ⟨k, rfl⟩ : ∃ i, k = i + 1 := ⟨k - 1, by omega⟩
    refine ⟨v, x, by simpa using h, hx, ?_⟩
    unfold l_X12_bitsOf_14
    have hc := nm_cg h nm_one (Or.inr ⟨by omega, h.2.1⟩) CmpOp.g
    rw [if_pos (by rcases hc with e | e <;> rw [e] <;> decide)]
  | succ m ih =>
    intro k v x y c hk hm h hx
    obtain ⟨k, rfl⟩ : ∃ i, k = i + 1 := ⟨k - 1, by omega⟩
    have h2 := nm_dbl h (by omega)
    obtain ⟨w, z, e1, e2, e3⟩ := ih k (FP.dmul v 4611686018427387904) (x + (-1)) y (c := c) (by omega) (by omega) (by
      have e : (-52 - ((m + 1 : Nat) : Int) + 1) = -52 - (m : Int) := by omega
      rw [e] at h2
      exact h2) (by
      rw [← Int32.add_assoc, hx, ← Nat.add_assoc, ← nI_add]
      show nI (y + m) + 1 + -1 = _
      rw [Int32.add_assoc]
      exact Int32.add_zero _)
    refine ⟨w, z, e1, e2, ?_⟩
    unfold l_X12_bitsOf_14
    rw [nm_cl h nm_one (by omega), if_neg (by decide), nm_x h2]
    exact e3
theorem bo14z {n k : Nat} {a b : Int32} {v : UInt64} {c : Nat} {q : Int} (hk : 0 < k) (h : nm v c q) (hq : -52 ≤ q) (x : Int32) : l_X12_bitsOf_14 n a b k v x = some (v, x) := by
  obtain ⟨k, rfl⟩ : ∃ i, k = i + 1 := ⟨k - 1, by omega⟩
  unfold l_X12_bitsOf_14
  have h3 := h.2.1
  have hc := nm_cg h nm_one (by omega) CmpOp.g
  rw [if_pos (by rcases hc with e | e <;> rw [e] <;> decide)]
theorem bo35 {n : Nat} {a b : Int32} : ∀ (m k : Nat) (v : UInt64) (x : Int32) (y : Nat) {c : Nat}, m < k → m < 1000 → nm v c (-52 + (m : Int)) → b + x = nI y → ∃ w z, nm w c (-52) ∧ b + z = nI (y + m) ∧ l_X12_bitsOf_35 n a b k v x = some (w, z) := by
  intro m
  induction m with
  | zero =>
    intro k v x y c hk hm h hx
    obtain ⟨k, rfl⟩ : ∃ i, k = i + 1 := ⟨k - 1, by omega⟩
    refine ⟨v, x, by simpa using h, hx, ?_⟩
    unfold l_X12_bitsOf_35
    rw [nm_cl h nm_two (by omega), if_pos (by decide)]
  | succ m ih =>
    intro k v x y c hk hm h hx
    obtain ⟨k, rfl⟩ : ∃ i, k = i + 1 := ⟨k - 1, by omega⟩
    have h2 := nm_hlv h (by omega)
    obtain ⟨w, z, e1, e2, e3⟩ := ih k (FP.ddiv v 4611686018427387904) (x + 1) (y + 1) (c := c) (by omega) (by omega) (by
      have e : (-52 + ((m + 1 : Nat) : Int) - 1) = -52 + (m : Int) := by omega
      rw [e] at h2
      exact h2) (by
      rw [← Int32.add_assoc, hx, ← nI_add]
      rfl)
    refine ⟨w, z, e1, by rw [e2]; congr 1; omega, ?_⟩
    unfold l_X12_bitsOf_35
    have h3 := h.2.1
    have hc := nm_cg h nm_two (by omega) CmpOp.l
    rw [if_neg (by rcases hc with e | e <;> rw [e] <;> decide), nm_x h2]
    exact e3
theorem bo61 {n p j0 : Nat} {b l6 : Int32} (hp : p < 100) : ∀ (m k : Nat) (v : UInt64) (j : Nat) {c : Nat}, m < k → j + m = p → nm v c (-52 + (j : Int)) → ∃ w, nm w c (-52 + (p : Int)) ∧ l_X12_bitsOf_61 n (nI p) b l6 k v (nI j) = some (w, nI p) := by
  intro m
  induction m with
  | zero =>
    intro k v j c hk hj h
    obtain ⟨k, rfl⟩ : ∃ i, k = i + 1 := ⟨k - 1, by omega⟩
    have : j = p := by omega
    subst this
    refine ⟨v, h, ?_⟩
    unfold l_X12_bitsOf_61
    rw [if_pos (Int32.le_refl _)]
  | succ m ih =>
    intro k v j c hk hj h
    obtain ⟨k, rfl⟩ : ∃ i, k = i + 1 := ⟨k - 1, by omega⟩
    have h2 := nm_dbl h (by omega)
    obtain ⟨w, e1, e3⟩ := ih k (FP.dmul v 4611686018427387904) (j + 1) (c := c) (by omega) (by omega) (by
      have e : (-52 + ((j : Nat) : Int) + 1) = -52 + ((j + 1 : Nat) : Int) := by omega
      rw [e] at h2
      exact h2)
    refine ⟨w, e1, ?_⟩
    unfold l_X12_bitsOf_61
    rw [if_neg (nI_ge (by omega) (by omega)), nm_x h2]
    show l_X12_bitsOf_61 n (nI p) b l6 k (FP.dmul v 4611686018427387904) (nI j + nI 1) = _
    rw [nI_add]
    exact e3
theorem bo_is {n c p e : Nat} {b : Int32} {q : Int} {v : UInt64} (hn : 2000 ≤ n) (h : nm v c q) (h1 : -900 ≤ q) (h2 : q ≤ 800) (hp : p ≤ 52) (hb : b = nI e) (he : 0 ≤ q + 52 + e) : f_X12_bitsOf n v (nI p) b = some (((Int32.toInt64 (nI (q + 52 + e).toNat)) <<< (Int32.toInt64 (nI p) &&& 63)) ||| (lN (c / 2 ^ (52 - p)) - (1 <<< (Int32.toInt64 (nI p) &&& 63)))) := by
  unfold f_X12_bitsOf
  rw [nm_c0 h, if_neg (by decide)]
  have main : ∃ w z, nm w c (-52) ∧ b + z = nI (q + 52 + e).toNat ∧ (Option.bind (l_X12_bitsOf_14 n (nI p) b n v 0) (fun u4 => l_X12_bitsOf_35 n (nI p) b n u4.1 u4.2)) = some (w, z) := by
    by_cases hq : -52 ≤ q
    · rw [bo14z (by omega) h hq]
      obtain ⟨w, z, e1, e2, e3⟩ := bo35 (n := n) (a := nI p) (b := b) (q + 52).toNat n v 0 e (c := c) (by omega) (by omega) (by rw [show (-52 + ((q + 52).toNat : Int)) = q by omega]; exact h) (by rw [hb]; exact Int32.add_zero _)
      exact ⟨w, z, e1, by rw [e2]; congr 1; omega, e3⟩
    · obtain ⟨w, z, e1, e2, e3⟩ := bo14 (n := n) (a := nI p) (b := b) (-52 - q).toNat n v 0 (q + 52 + e).toNat (c := c) (by omega) (by omega) (by rw [show (-52 - ((-52 - q).toNat : Int)) = q by omega]; exact h) (by rw [hb, show (q + 52 + (e : Int)).toNat + (-52 - q).toNat = e by omega]; exact Int32.add_zero _)
      rw [e3]
      obtain ⟨w2, z2, e4, e5, e6⟩ := bo35 (n := n) (a := nI p) (b := b) 0 n w z (q + 52 + e).toNat (c := c) (by omega) (by omega) (by simpa using e1) e2
      exact ⟨w2, z2, e4, e5, e6⟩
  obtain ⟨w, z, e1, e2, e3⟩ := main
  cases e4 : l_X12_bitsOf_14 n (nI p) b n v 0 with
  | none => rw [e4] at e3; exact absurd e3 (by simp)
  | some u =>
    rw [e4] at e3
    have e3 : l_X12_bitsOf_35 n (nI p) b n u.1 u.2 = some (w, z) := e3
    simp only [Option.bind_some]
    rw [e3]
    simp only [Option.bind_some]
    obtain ⟨w2, e5, e6⟩ := bo61 (n := n) (j0 := 0) (b := b) (l6 := z) (p := p) (by omega) p n w 0 (c := c) (by omega) (by omega) (by simpa using e1)
    rw [show (0 : Int32) = nI 0 from rfl, e6]
    simp only [Option.bind_some]
    rw [e2, nm_d2l (m := 52 - p) (by rw [show (-((52 - p : Nat) : Int)) = -52 + (p : Int) by omega]; exact e5) (by omega)]
theorem lN_dif {a b : Nat} (h : b ≤ a) : lN a - lN b = lN (a - b) := by
  have : lN a = lN (a - b) + lN b := by rw [lN_add, Nat.sub_add_cancel h]
  rw [this]
  exact Int64.add_sub_cancel _ _
theorem bd_is {n c : Nat} {q : Int} {v : UInt64} (hn : 2000 ≤ n) (h : nm v c q) (h1 : -900 ≤ q) (h2 : q ≤ 800) : f_X12_bitsOf n v 52 1023 = some (lN (dbits c q)) := by
  have := bo_is (n := n) (p := 52) (e := 1023) (b := 1023) hn h h1 h2 (by decide) rfl (by omega)
  have a1 := h.2.1
  have a2 := h.2.2.1
  rw [show (1 <<< (Int32.toInt64 (nI 52) &&& 63) : Int64) = lN 4503599627370496 by decide +kernel, show nI 52 = 52 from rfl, nI_l (by omega), lN_shl52, Nat.pow_zero, Nat.div_one, lN_dif a1, lN_or, or52 (by omega)] at this
  rw [this, dbits_d, show (q + 52 + ((1023 : Nat) : Int)).toNat = (q + 1075).toNat by omega]
def fbits (c : Nat) (q : Int) : Nat := (q + 179).toNat * 8388608 + (c - 8388608)
theorem fbits_d (c : Nat) (q : Int) : fbits c q = (q + 179).toNat * 8388608 + (c - 8388608) := by with_unfolding_all rfl
theorem bf_is {n c : Nat} {q : Int} {v : UInt64} (hn : 2000 ≤ n) (h : nm v (c * 536870912) q) (h1 : -170 ≤ q) (h2 : q ≤ 70) : f_X12_bitsOf n v 23 127 = some (lN (fbits c q)) := by
  have := bo_is (n := n) (p := 23) (e := 127) (b := 127) hn h (by omega) (by omega) (by decide) rfl (by omega)
  have a1 := h.2.1
  have a2 := h.2.2.1
  rw [show (1 <<< (Int32.toInt64 (nI 23) &&& 63) : Int64) = lN 8388608 by decide +kernel, show nI 23 = 23 from rfl, nI_l (by omega), lN_shl23, show 2 ^ (52 - 23) = 536870912 from rfl, Nat.mul_div_cancel _ (by decide), lN_dif (by omega), lN_or, or23 (by omega)] at this
  rw [this, fbits_d, show (q + 52 + ((127 : Nat) : Int)).toNat = (q + 179).toNat by omega]
theorem lg_p {x : Nat} (h0 : 0 < x) (h : x < 2 ^ 63) : lg_cmp (lN x) 0 = 1 := by
  unfold lg_cmp
  refine if_pos ?_
  show (0 : Int64) < lN x
  rw [Int64.lt_iff_toInt_lt, lN_int h]
  show (0 : Int) < x
  omega
theorem nI_shl23 (x : Nat) : nI x <<< ((23 : Int32) &&& 31) = nI (x * 8388608) := by
  apply i32_ext
  apply BitVec.eq_of_toNat_eq
  have h : ((23 : Int32) &&& 31) = 23 := by decide
  have e : (nI x <<< ((23 : Int32) &&& 31)).toBitVec = (nI x).toBitVec <<< 23 := by rw [h]; rfl
  rw [e, BitVec.toNat_shiftLeft, nI_bv, nI_bv, BitVec.toNat_ofNat, BitVec.toNat_ofNat, Nat.shiftLeft_eq]
  omega
theorem nI_orr (a b : Nat) : nI a ||| nI b = nI (a ||| b) := by
  apply i32_ext
  apply BitVec.eq_of_toNat_eq
  rw [Int32.toBitVec_or, BitVec.toNat_or, nI_bv, nI_bv, nI_bv, BitVec.toNat_ofNat, BitVec.toNat_ofNat, BitVec.toNat_ofNat, Nat.or_mod_two_pow]
theorem nI_896 {E : Nat} (h : 896 ≤ E) : nI E - 1023 + 127 = nI (E - 896) := by
  have : nI E = nI (E - 896) + 896 := by
    show _ = nI (E - 896) + nI 896
    rw [nI_add, Nat.sub_add_cancel h]
  rw [this, Int32.sub_eq_add_neg, Int32.add_assoc, Int32.add_assoc]
  exact Int32.add_zero _
theorem of_y {F T X : Nat} (hT : T < 8388608) (hF : F ≤ 300) (hX : X = (F + 896) * 4503599627370496 + T * 536870912) : 0 < X ∧ X < 2 ^ 63 ∧ X / 2 ^ 52 = F + 896 ∧ X / 2 ^ 29 % 2 ^ 32 % 2 ^ 23 = T := by omega
theorem of_x {F T X : Nat} (hT : T < 8388608) (h1 : 0 < F) (hF : F ≤ 300) (hX : 0 < X ∧ X < 2 ^ 63 ∧ X / 2 ^ 52 = F + 896 ∧ X / 2 ^ 29 % 2 ^ 32 % 2 ^ 23 = T) : lg_cmp (lN X) 0 = 1 ∧ (((Int64.toInt32 (xul (lN X) 52) - 1023) + 127) <<< ((23 : Int32) &&& 31)) ||| (Int64.toInt32 (xul (lN X) 29) &&& 8388607) = nI (F * 8388608 + T) := by
  obtain ⟨x1, x2, x3, x4⟩ := hX
  have e1 : xul (lN X) 52 = lN (X / 2 ^ 52) := xul_is (k := 52) (by omega) (by decide)
  have e2 : xul (lN X) 29 = lN (X / 2 ^ 29) := xul_is (k := 29) (by omega) (by decide)
  refine ⟨lg_p x1 x2, ?_⟩
  rw [e1, e2, x3, lN_i, lN_i, nI_896 (by omega), nI_shl23, pk_and _ 23 (by decide), nI_tn, nI_orr, x4, or23 hT, Nat.add_sub_cancel]
theorem of_w {n : Nat} {f : UInt32} {q2 : Int64} {z : Int32} (hx : xn64 (FP.f2d f) = true) (eo : f_X0_ofDouble n (FP.f2d f) = some q2) (h1 : lg_cmp q2 0 = 1) (h2 : (((Int64.toInt32 (xul q2 52) - 1023) + 127) <<< ((23 : Int32) &&& 31)) ||| (Int64.toInt32 (xul q2 29) &&& 8388607) = z) : f_X0_ofFloat n f = some z := by
  unfold f_X0_ofFloat
  rw [hx, eo, cond_true, Option.bind_some, h1, if_neg (by decide), h2]
theorem of_d {c E T : Nat} {q : Int} (hc : 8388608 ≤ c) (hE : (q + 1075).toNat = E) (hT : c = T + 8388608) : dbits (c * 536870912) q = E * 4503599627370496 + T * 536870912 := by
  rw [dbits_d, hE, show c * 536870912 = T * 536870912 + 4503599627370496 by omega, Nat.add_sub_cancel]
theorem of_f {c E T : Nat} {q : Int} (hE : (q + 179).toNat = E) (hT : c = T + 8388608) : fbits c q = E * 8388608 + T := by
  rw [fbits_d, hE, hT, Nat.add_sub_cancel]
theorem of_is {n c : Nat} {r : Int} {f : UInt32} (hn : 2000 ≤ n) (h : nf f c r) (h1 : -141 ≤ r) (h2 : r ≤ 90) : f_X0_ofFloat n f = some (nI (fbits c (r - 29))) := by
  have g := nf_f2d h (by omega) (by omega)
  have eo := od_is hn g (by omega) (by omega)
  have hx := nm_x g
  clear g
  have c1 := h.2.1
  have c2 := h.2.2
  obtain ⟨T, hT⟩ : ∃ T, c = T + 8388608 := ⟨c - 8388608, by omega⟩
  obtain ⟨F, hF⟩ : ∃ F, (r - 29 + 179).toNat = F := ⟨_, rfl⟩
  have hd := of_d c1 (show (r - 29 + 1075).toNat = F + 896 by omega) hT
  rw [of_f hF hT]
  generalize dbits (c * 536870912) (r - 29) = X at eo hd
  have hy := of_y (by omega) (by omega) hd
  obtain ⟨y1, y2⟩ := of_x (by omega) (by omega) (by omega) hy
  exact of_w hx eo y1 y2
theorem of_z {n : Nat} : f_X0_ofFloat n 0 = some 0 := by
  unfold f_X0_ofFloat
  rw [f2d_z, od_z, show xn64 0 = true by decide]
  rfl
theorem rat_is {n a b : Nat} (hn : 2000 ≤ n) (ha : a < 2 ^ 63) (hb0 : 0 < b) (hb : b < 2 ^ 63) (p : Int32) : ∃ r, f_X0_ofRatio n (lN a) (lN b) p = some r ∧ f_X12_numberBy n (lN a) (lN b) p = some r := by
  unfold f_X0_ofRatio f_X12_numberBy
  rw [lg_p hb0 hb, if_neg (show ¬ (1 : Int32) ≤ 0 by decide)]
  obtain ⟨cb, qb, nb, qb1, qb2⟩ := nm_l2d hb0 hb
  by_cases h0 : a = 0
  · subst h0
    rw [l2d_z, div_z nb, show xn64 0 = true by decide, bz_is]
    simp only [cond_true, Option.bind_some]
    unfold b_X0_ofRatio_30 f_X0_upper f_X0_lower
    rw [od_z, d2f_z, of_z, f2d_z, bz_is, show xn64 0 = true by decide, show xn32 0 = true by decide]
    simp only [cond_true, Option.bind_some]
    split
    · exact ⟨_, rfl, rfl⟩
    · split
      · exact ⟨_, rfl, rfl⟩
      · split
        · exact ⟨_, rfl, rfl⟩
        · split
          · exact ⟨_, rfl, rfl⟩
          · exact ⟨_, rfl, rfl⟩
  · obtain ⟨ca, qa, na, qa1, qa2⟩ := nm_l2d (show 0 < a by omega) ha
    obtain ⟨c, q, h, q1, q2⟩ := nm_div na nb (by omega) (by omega)
    generalize FP.ddiv (FP.l2d (lN a)) (FP.l2d (lN b)) = v at h ⊢
    obtain ⟨d, r, g, r1, r2⟩ := nm_d2f h (by omega) (by omega)
    have g2 := nf_f2d g (by omega) (by omega)
    rw [nm_x h, bd_is hn h (by omega) (by omega)]
    simp only [cond_true, Option.bind_some]
    unfold b_X0_ofRatio_30 f_X0_upper f_X0_lower
    rw [od_is hn h (by omega) (by omega), xn32_t (nf_nn g), of_is hn g (by omega) (by omega), nm_x g2, bf_is hn g2 (by omega) (by omega)]
    simp only [cond_true, Option.bind_some]
    have hl : Int32.toInt64 (nI (fbits d (r - 29))) = lN (fbits d (r - 29)) := by
      refine nI_l ?_
      have := g.2.2
      rw [fbits_d]
      have : (r - 29 + 179).toNat ≤ 250 := by omega
      omega
    rw [hl]
    split
    · exact ⟨_, rfl, rfl⟩
    · split
      · exact ⟨_, rfl, rfl⟩
      · split
        · exact ⟨_, rfl, rfl⟩
        · split
          · exact ⟨_, rfl, rfl⟩
          · exact ⟨_, rfl, rfl⟩
