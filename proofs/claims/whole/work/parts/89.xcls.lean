/-! the class's words -/
def oI (z : Int) : Int64 := Int64.ofInt z
theorem oI_add (a b : Int) : oI a + oI b = oI (a + b) := (Int64.ofInt_add a b).symm
theorem oI_mul (a b : Int) : oI a * oI b = oI (a * b) := (Int64.ofInt_mul a b).symm
theorem oI_neg (a : Int) : - oI a = oI (-a) := (Int64.ofInt_neg a).symm
theorem oI_nat (a : Nat) : oI (a : Int) = lN a := by
  apply Int64.toBitVec_inj.mp
  show BitVec.ofInt 64 (a : Int) = BitVec.ofNat 64 a
  exact BitVec.ofInt_natCast 64 a
def pq : Nat → Nat → Bool
  | 0, _ => false
  | k + 1, v => xor (v.testBit k) (pq k v)
theorem pr_pq (x s : Nat) : ∀ k, pr k x s = pq k (s &&& x) := by
  intro k
  induction k with
  | zero => rfl
  | succ k ih => rw [pr, pq, ih, Nat.testBit_and, Bool.and_comm]
theorem bc8 : ∀ v, v < 256 → (f_J6_bitCount_0f7a4 (nI v)).map (fun q => q &&& 1) = some (nI (if pq 8 v then 1 else 0)) := by decide +kernel
theorem bc8_is {v : Nat} (h : v < 256) : ∃ q, f_J6_bitCount_0f7a4 (nI v) = some q ∧ q &&& 1 = nI (if pq 8 v then 1 else 0) := by
  have := bc8 v h
  cases e : f_J6_bitCount_0f7a4 (nI v) with
  | none => rw [e] at this; exact absurd this (by simp)
  | some q => rw [e] at this; exact ⟨q, rfl, by simpa using this⟩
def wf (x : Nat) : Nat → Nat
  | 0 => 0
  | b + 1 => wf x b + if pr 8 x (pw b) then 1 else 0
theorem wf_wt (x : Nat) : ∀ b, b ≤ 40 → wf x b + wt x (40 - b) = wt x 40 := by
  intro b
  induction b with
  | zero => intro _; rw [wf, Nat.zero_add]
  | succ b ih =>
    intro hb
    have := ih (by omega)
    rw [← this, wf, show 40 - b = 40 - (b + 1) + 1 by omega, wt, show 39 - (40 - (b + 1)) = b by omega]
    omega
theorem nI_and (a b : Nat) : nI a &&& nI b = nI (a &&& b) := by
  apply i32_ext
  show BitVec.ofNat 32 a &&& BitVec.ofNat 32 b = BitVec.ofNat 32 (a &&& b)
  exact (BitVec.ofNat_and).symm
theorem mk_16 {n x : Nat} (o38 a41 : Nat → Int32) (hx : x < 256) : ∀ (r k : Nat), r ≤ 40 → r < k → ∃ y z, l_X9_countMasks_38_16 n o38 a41 (nI x) k (nI (wf x (40 - r))) (nI (pw (40 - r))) (nI (40 - r)) = some (nI (wf x 40), y, z) := by
  intro r
  induction r with
  | zero =>
    intro k _ hk
    obtain ⟨k, rfl⟩ : ∃ q, k = q + 1 := ⟨k - 1, by omega⟩
    rw [l_X9_countMasks_38_16, if_pos (by decide)]
    exact ⟨_, _, rfl⟩
  | succ r ih =>
    intro k hr hk
    obtain ⟨k, rfl⟩ : ∃ q, k = q + 1 := ⟨k - 1, by omega⟩
    have c1 : ¬ (40 : Int32) ≤ nI (40 - (r + 1)) := nI_ge (a := 40 - (r + 1)) (b := 40) (by omega) (by decide)
    have hc : 40 - (r + 1) < 40 := by omega
    have hc2 : 40 - r = 40 - (r + 1) + 1 := by omega
    rw [l_X9_countMasks_38_16, if_neg c1]
    rw [hc2] at ih
    generalize 40 - (r + 1) = c at *
    have hl : pw c &&& x < 256 := Nat.lt_of_le_of_lt Nat.and_le_left (pw_lt c)
    obtain ⟨q, e1, e2⟩ := bc8_is hl
    rw [nI_and, e1, Option.bind_some, timesX_is (pw_lt c), Option.bind_some, e2, nI_add, nI_1, ← pr_pq]
    exact ih k (by omega) (by omega)
theorem mk_2 {n : Nat} (hn : 300 ≤ n) (o38 : Nat → Int32) : ∀ (r k : Nat) (a : Nat → Int32), r ≤ 256 → r < k → (∀ v, v < 41 → a v = nI (ct (256 - r) v)) → ∃ x a', l_X9_countMasks_38_2 n o38 k (nI (256 - r)) a = some (x, a') ∧ ∀ v, v < 41 → a' v = nI (ct 256 v) := by
  intro r
  induction r with
  | zero =>
    intro k a _ hk ha
    obtain ⟨k, rfl⟩ : ∃ q, k = q + 1 := ⟨k - 1, by omega⟩
    rw [l_X9_countMasks_38_2, if_pos (by decide)]
    exact ⟨_, a, rfl, ha⟩
  | succ r ih =>
    intro k a hr hk ha
    obtain ⟨k, rfl⟩ : ∃ q, k = q + 1 := ⟨k - 1, by omega⟩
    have c1 : ¬ (256 : Int32) ≤ nI (256 - (r + 1)) := nI_ge (a := 256 - (r + 1)) (b := 256) (by omega) (by decide)
    have hc : 256 - (r + 1) < 256 := by omega
    have hc2 : 256 - r = 256 - (r + 1) + 1 := by omega
    rw [l_X9_countMasks_38_2, if_neg c1]
    rw [hc2] at ih
    generalize 256 - (r + 1) = c at *
    obtain ⟨y, z, e1⟩ := mk_16 (n := n) o38 a hc 40 n (by omega) (by omega)
    rw [show nI (wf c (40 - 40)) = (0 : Int32) from rfl, show nI (pw (40 - 40)) = (1 : Int32) from rfl, show nI (40 - 40) = (0 : Int32) from rfl, show wf c 40 = wt c 40 from wf_wt c 40 (by omega)] at e1
    have hw := wt_le c 40
    rw [e1, Option.bind_some]
    simp only []
    rw [if_neg (show ¬ (41 : Int32) ≤ nI (wt c 40) from nI_ge (a := wt c 40) (b := 41) (by omega) (by decide)), xin_t (show wt c 40 < 41 by omega) (by decide), cond_true, cond_true, nI_clamp (by omega), ha _ (by omega), nI_1, nI_1]
    refine ih k _ (by omega) (by omega) ?_
    intro v hv
    rw [ct]
    by_cases cv : v = wt c 40
    · subst cv
      rw [upd_s, if_pos rfl]
    · rw [upd_n _ _ cv, if_neg (fun e => cv e.symm), Nat.add_zero]
      exact ha v hv
theorem fl_l {n : Nat} (x : Int64) : ∀ (r k : Nat) (a : Nat → Int64), r ≤ 41 → r < k → (∀ j, j < 41 - r → a j = x) → ∃ y a', l_J7_fill_d0a16_40_6 n x 41 k (nI (41 - r)) a = some (y, a') ∧ ∀ j, j < 41 → a' j = x := by
  intro r
  induction r with
  | zero =>
    intro k a _ hk ha
    obtain ⟨k, rfl⟩ : ∃ q, k = q + 1 := ⟨k - 1, by omega⟩
    rw [l_J7_fill_d0a16_40_6, if_pos (by decide)]
    exact ⟨_, a, rfl, ha⟩
  | succ r ih =>
    intro k a hr hk ha
    obtain ⟨k, rfl⟩ : ∃ q, k = q + 1 := ⟨k - 1, by omega⟩
    have c1 : ¬ (41 : Int32) ≤ nI (41 - (r + 1)) := nI_ge (a := 41 - (r + 1)) (b := 41) (by omega) (by decide)
    rw [l_J7_fill_d0a16_40_6, if_neg c1, xin_t (show 41 - (r + 1) < 41 by omega) (by decide), cond_true, nI_clamp (by omega), nI_1, show 41 - (r + 1) + 1 = 41 - r by omega]
    refine ih k _ (by omega) (by omega) ?_
    intro j hj
    by_cases cj : j = 41 - (r + 1)
    · subst cj
      rw [updL_s]
    · rw [updL_n _ _ cj]
      exact ha j (by omega)
theorem kR_hi (v : Nat) : ∀ (i j : Nat), i < j → kR v i j = 0 := by
  intro i
  induction i with
  | zero => intro j h; rw [kR, dlt, if_neg (by omega)]
  | succ i ih => intro j h; rw [kR_s, stp, if_neg (by omega), ih j (by omega), ih (j - 1) (by omega), sg]; split <;> rfl
theorem kR_z (v i : Nat) : kR v (i + 1) 0 = kR v i 0 := by
  rw [kR_s, stp, if_pos rfl, sg]; split <;> omega
theorem sg_27 {n v i : Nat} (o38 : Nat → Int32) (hv : v < 41) (hi : i < 40) : ∀ (c k : Nat) (a : Nat → Int64), c ≤ i + 1 → c < k → (∀ j, c < j → j < 41 → a j = oI (kR v (i + 1) j)) → (∀ j, j ≤ c → a j = oI (kR v i j)) → ∃ y a', l_X9_addUpSigns_38_27 n o38 (nI v) (nI i) k (nI c) a = some (y, a') ∧ ∀ j, j < 41 → a' j = oI (kR v (i + 1) j) := by
  intro c
  induction c with
  | zero =>
    intro k a _ hk h1 h2
    obtain ⟨k, rfl⟩ : ∃ q, k = q + 1 := ⟨k - 1, by omega⟩
    rw [l_X9_addUpSigns_38_27, if_pos (by decide)]
    refine ⟨_, a, rfl, fun j hj => ?_⟩
    by_cases cj : j = 0
    · subst cj
      rw [h2 0 (Nat.le_refl _), kR_z]
    · exact h1 j (by omega) hj
  | succ c ih =>
    intro k a hc hk h1 h2
    obtain ⟨k, rfl⟩ : ∃ q, k = q + 1 := ⟨k - 1, by omega⟩
    have key : ∀ x : Int64, x = oI (kR v (i + 1) (c + 1)) → (∀ j, c < j → j < 41 → vp_updL a (c + 1) x j = oI (kR v (i + 1) j)) ∧ ∀ j, j ≤ c → vp_updL a (c + 1) x j = oI (kR v i j) := by
      intro x hx
      refine ⟨fun j hj hj2 => ?_, fun j hj => ?_⟩
      · by_cases cj : j = c + 1
        · subst cj
          rw [updL_s, hx]
        · rw [updL_n _ _ cj]
          exact h1 j (by omega) hj2
      · rw [updL_n _ _ (by omega)]
        exact h2 j (by omega)
    rw [l_X9_addUpSigns_38_27, if_neg (nI_nle (by omega) (by omega)), show nI (c + 1) - 1 = nI c from nI_sb (a := c + 1) (b := 1) (by omega), xin_t (show c + 1 < 41 by omega) (by decide), xin_t (show c < 41 by omega) (by decide)]
    simp only [cond_true]
    rw [nI_clamp (by omega), nI_clamp (by omega), nI_m1, h2 (c + 1) (by omega), h2 c (by omega), oI_neg, oI_add, oI_add]
    have ek : kR v (i + 1) (c + 1) = kR v i (c + 1) + sg (decide (i < v)) (kR v i c) := by
      rw [kR_s, stp, if_neg (Nat.succ_ne_zero c), Nat.add_sub_cancel]
    by_cases c2 : v ≤ i
    · rw [if_pos (nI_le c2 (by omega))]
      obtain ⟨k1, k2⟩ := key (oI (kR v i (c + 1) + kR v i c)) (by rw [ek, decide_eq_false (by omega)]; rfl)
      exact ih k _ (by omega) (by omega) k1 k2
    · rw [if_neg (nI_ge (by omega) (by omega))]
      obtain ⟨k1, k2⟩ := key (oI (kR v i (c + 1) + - kR v i c)) (by rw [ek, decide_eq_true (by omega)]; rfl)
      exact ih k _ (by omega) (by omega) k1 k2
theorem sg_17 {n v : Nat} (hn : 300 ≤ n) (o38 : Nat → Int32) (hv : v < 41) : ∀ (r k : Nat) (a : Nat → Int64), r ≤ 40 → r < k → (∀ j, j < 41 → a j = oI (kR v (40 - r) j)) → ∃ y a', l_X9_addUpSigns_38_17 n o38 (nI v) k (nI (40 - r)) a = some (y, a') ∧ ∀ j, j < 41 → a' j = oI (kR v 40 j) := by
  intro r
  induction r with
  | zero =>
    intro k a _ hk ha
    obtain ⟨k, rfl⟩ : ∃ q, k = q + 1 := ⟨k - 1, by omega⟩
    rw [l_X9_addUpSigns_38_17, if_pos (by decide)]
    exact ⟨_, a, rfl, ha⟩
  | succ r ih =>
    intro k a hr hk ha
    obtain ⟨k, rfl⟩ : ∃ q, k = q + 1 := ⟨k - 1, by omega⟩
    have c1 : ¬ (40 : Int32) ≤ nI (40 - (r + 1)) := nI_ge (a := 40 - (r + 1)) (b := 40) (by omega) (by decide)
    have hc : 40 - (r + 1) < 40 := by omega
    have hc2 : 40 - r = 40 - (r + 1) + 1 := by omega
    rw [l_X9_addUpSigns_38_17, if_neg c1]
    rw [hc2] at ih
    generalize 40 - (r + 1) = c at *
    obtain ⟨y, a', e1, e2⟩ := sg_27 (n := n) o38 hv hc (c + 1) n a (Nat.le_refl _) (by omega) (fun j hj hj2 => by
      rw [ha j hj2, kR_hi v c j (by omega), kR_hi v (c + 1) j (by omega)]) (fun j hj => ha j (by omega))
    rw [nI_1, e1, Option.bind_some]
    exact ih k a' (by omega) (by omega) e2
theorem sg_is {n v : Nat} (hn : 300 ≤ n) (o38 : Nat → Int32) (hv : v < 41) (a40 : Nat → Int64) : ∃ a', f_X9_addUpSigns_38 n o38 a40 (nI v) = some a' ∧ ∀ j, j < 41 → a' j = oI (kR v 40 j) := by
  unfold f_X9_addUpSigns_38 f_J7_fill_d0a16_40
  obtain ⟨y, a1, e1, e2⟩ := fl_l (n := n) 0 41 n a40 (by omega) (by omega) (fun j hj => absurd hj (by omega))
  rw [show nI (41 - 41) = (0 : Int32) from rfl] at e1
  rw [e1]
  simp only [Option.bind_some]
  obtain ⟨z, a2, e3, e4⟩ := sg_17 hn o38 hv 40 n (vp_updL a1 0 1) (by omega) (by omega) (fun j hj => by
    rw [Nat.sub_self, kR, dlt]
    by_cases c : j = 0
    · subst c
      rw [updL_s]
      rfl
    · rw [updL_n _ _ c, e2 j hj, if_neg c]
      rfl)
  rw [show nI (40 - 40) = (0 : Int32) from rfl] at e3
  rw [e3]
  exact ⟨a2, rfl, e4⟩
theorem cw_28 {n v : Nat} (o38 : Nat → Int32) (hv : v < 41) {a40 : Nat → Int64} {a41 : Nat → Int32} {x : Nat} (hx : a41 v = nI x) (hx2 : x < 2 ^ 31) {g f : Nat → Int} (h40 : ∀ j, j < 41 → a40 j = oI (g j)) : ∀ (r k : Nat) (a : Nat → Int64), r ≤ 41 → r < k → (∀ j, j < 41 - r → a j = oI (f j + x * g j)) → (∀ j, 41 - r ≤ j → j < 41 → a j = oI (f j)) → ∃ y a', l_X9_countWords_38_28 n o38 a40 a41 (nI v) k (nI (41 - r)) a = some (y, a') ∧ ∀ j, j < 41 → a' j = oI (f j + x * g j) := by
  intro r
  induction r with
  | zero =>
    intro k a _ hk ha hb
    obtain ⟨k, rfl⟩ : ∃ q, k = q + 1 := ⟨k - 1, by omega⟩
    rw [l_X9_countWords_38_28, if_pos (by decide)]
    exact ⟨_, a, rfl, ha⟩
  | succ r ih =>
    intro k a hr hk ha hb
    obtain ⟨k, rfl⟩ : ∃ q, k = q + 1 := ⟨k - 1, by omega⟩
    have hc : 41 - (r + 1) < 41 := by omega
    have hc2 : 41 - r = 41 - (r + 1) + 1 := by omega
    rw [l_X9_countWords_38_28]
    rw [hc2] at ih
    generalize 41 - (r + 1) = c at *
    rw [if_neg (show ¬ (40 : Int32) < nI c from nI_nlt (a := 40) (b := c) (by omega) (by decide)), xin_t hc (by decide), xin_t hv (by decide)]
    simp only [cond_true]
    rw [nI_clamp (by omega), nI_clamp (by omega), hx, nI_l hx2, h40 c hc, hb c (Nat.le_refl _) hc, ← oI_nat, oI_mul, oI_add, nI_1]
    refine ih k _ (by omega) (by omega) ?_ ?_
    · intro j hj
      by_cases cj : j = c
      · subst cj
        rw [updL_s]
      · rw [updL_n _ _ cj]
        exact ha j (by omega)
    · intro j hj hj2
      rw [updL_n _ _ (by omega)]
      exact hb j (by omega) hj2
theorem ct_le (v : Nat) : ∀ r, ct r v ≤ r := by
  intro r
  induction r with
  | zero => exact Nat.le_refl _
  | succ r ih => rw [ct]; split <;> omega
theorem cw_6 {n : Nat} (hn : 300 ≤ n) (o38 : Nat → Int32) {a41 : Nat → Int32} (h41 : ∀ v, v < 41 → a41 v = nI (ct 256 v)) : ∀ (r k : Nat) (a b : Nat → Int64), r ≤ 41 → r < k → (∀ j, j < 41 → a j = oI (sm (fun v => (ct 256 v : Nat) * kR v 40 j) (41 - r))) → ∃ y a' b', l_X9_countWords_38_6 n o38 a41 k (nI (41 - r)) a b = some (y, a', b') ∧ ∀ j, j < 41 → a' j = oI (sm (fun v => (ct 256 v : Nat) * kR v 40 j) 41) := by
  intro r
  induction r with
  | zero =>
    intro k a b _ hk ha
    obtain ⟨k, rfl⟩ : ∃ q, k = q + 1 := ⟨k - 1, by omega⟩
    rw [l_X9_countWords_38_6, if_pos (by decide)]
    exact ⟨_, a, b, rfl, ha⟩
  | succ r ih =>
    intro k a b hr hk ha
    obtain ⟨k, rfl⟩ : ∃ q, k = q + 1 := ⟨k - 1, by omega⟩
    have hc : 41 - (r + 1) < 41 := by omega
    have hc2 : 41 - r = 41 - (r + 1) + 1 := by omega
    rw [l_X9_countWords_38_6]
    rw [hc2] at ih
    generalize 41 - (r + 1) = c at *
    have hle := ct_le c 256
    rw [if_neg (show ¬ (40 : Int32) < nI c from nI_nlt (a := 40) (b := c) (by omega) (by decide)), xin_t hc (by decide), cond_true, nI_clamp (by omega), h41 c hc, nI_1]
    by_cases c2 : ct 256 c = 0
    · rw [if_pos (by rw [c2]; decide)]
      refine ih k a b (by omega) (by omega) (fun j hj => ?_)
      rw [ha j hj, sm, c2, show ((0 : Nat) : Int) = 0 from rfl, Int.zero_mul, Int.add_zero]
    · rw [if_neg (nI_nle (by omega) (by omega))]
      obtain ⟨b1, e1, e2⟩ := sg_is hn o38 hc b
      rw [e1, Option.bind_some]
      obtain ⟨y, a1, e3, e4⟩ := cw_28 (n := n) o38 hc (h41 c hc) (by omega) e2 41 n a (by omega) (by omega) (fun j hj => absurd hj (by omega)) (fun j _ hj => ha j hj)
      rw [show nI (41 - 41) = (0 : Int32) from rfl] at e3
      rw [e3, Option.bind_some]
      refine ih k a1 b1 (by omega) (by omega) (fun j hj => ?_)
      rw [e4 j hj, sm]
theorem cw_71 {n : Nat} (o38 : Nat → Int32) (a40 : Nat → Int64) (a41 : Nat → Int32) : ∀ (r k : Nat) (a : Nat → Int64), r ≤ 41 → r < k → (∀ j, j < 41 - r → a j = lN (wm 40 j 0)) → (∀ j, 41 - r ≤ j → j < 41 → a j = lN (256 * wm 40 j 0)) → ∃ y a', l_X9_countWords_38_71 n o38 a40 a41 k (nI (41 - r)) a = some (y, a') ∧ ∀ j, j < 41 → a' j = lN (wm 40 j 0) := by
  intro r
  induction r with
  | zero =>
    intro k a _ hk ha hb
    obtain ⟨k, rfl⟩ : ∃ q, k = q + 1 := ⟨k - 1, by omega⟩
    rw [l_X9_countWords_38_71, if_pos (by decide)]
    exact ⟨_, a, rfl, ha⟩
  | succ r ih =>
    intro k a hr hk ha hb
    obtain ⟨k, rfl⟩ : ∃ q, k = q + 1 := ⟨k - 1, by omega⟩
    have hc : 41 - (r + 1) < 41 := by omega
    have hc2 : 41 - r = 41 - (r + 1) + 1 := by omega
    rw [l_X9_countWords_38_71]
    rw [hc2] at ih
    generalize 41 - (r + 1) = c at *
    have hle := wm_le 40 c 0
    rw [show (2 : Nat) ^ 40 = 1099511627776 from rfl] at hle
    rw [if_neg (show ¬ (40 : Int32) < nI c from nI_nlt (a := 40) (b := c) (by omega) (by decide)), xin_t hc (by decide), cond_true, cond_true, nI_clamp (by omega), hb c (Nat.le_refl _) hc, show lN (256 * wm 40 c 0) / 256 = lN (256 * wm 40 c 0 / 256) from pk_lDiv (b := 256) (by omega) (by decide) (by decide), Nat.mul_div_cancel_left _ (by decide), nI_1]
    refine ih k _ (by omega) (by omega) ?_ ?_
    · intro j hj
      by_cases cj : j = c
      · subst cj
        rw [updL_s]
      · rw [updL_n _ _ cj]
        exact ha j (by omega)
    · intro j hj hj2
      rw [updL_n _ _ (by omega)]
      exact hb j (by omega) hj2
theorem cw_is {n : Nat} (hn : 300 ≤ n) (o38 : Nat → Int32) {a39 : Nat → Int64} (a40 : Nat → Int64) {a41 : Nat → Int32} (h39 : ∀ k, k < 41 → a39 k = 0) (h41 : ∀ k, k < 41 → a41 k = 0) : ∃ x y z, f_X9_countWords_38 n o38 a39 a40 a41 = some (x, y, z) ∧ ∀ j, j < 41 → x j = lN (wm 40 j 0) := by
  unfold f_X9_countWords_38 f_X9_countMasks_38
  obtain ⟨x1, z, e1, e2⟩ := mk_2 hn o38 256 n a41 (by omega) (by omega) (fun v hv => by rw [h41 v hv]; rfl)
  rw [show nI (256 - 256) = (0 : Int32) from rfl] at e1
  rw [e1]
  simp only [Option.bind_some]
  obtain ⟨x2, a1, b1, e3, e4⟩ := cw_6 hn o38 e2 41 n a39 a40 (by omega) (by omega) (fun j hj => by rw [h39 j hj]; rfl)
  rw [show nI (41 - 41) = (0 : Int32) from rfl] at e3
  rw [e3]
  simp only [Option.bind_some]
  obtain ⟨x3, a2, e5, e6⟩ := cw_71 (n := n) o38 b1 z 41 n a1 (by omega) (by omega) (fun j hj => absurd hj (by omega)) (fun j _ hj => by
    rw [e4 j hj, mw_0, ← oI_nat, Int.natCast_mul]
    rfl)
  rw [show nI (41 - 41) = (0 : Int32) from rfl] at e5
  rw [e5]
  exact ⟨_, _, _, rfl, e6⟩
def iV (o38 : Nat → Int32) (a39 : Nat → Int64) (a41 : Nat → Int32) : Prop := (o38 3 = 0 ∧ (∀ k, k < 41 → a39 k = 0) ∧ ∀ k, k < 41 → a41 k = 0) ∨ (o38 3 = 1 ∧ ∀ k, k < 41 → a39 k = lN (wm 40 k 0))
theorem wo_t {n p : Nat} (o38 : Nat → Int32) (a39 a40 : Nat → Int64) (a41 : Nat → Int32) (h : ∀ k, k < 41 → a39 k = lN (wm 40 k 0)) (hp : p < 2 ^ 31) : b_X9_wordsOf_38_16 n o38 a39 a40 a41 (nI p) = some (lN (wm 40 p 0), o38, a39, a40, a41) := by
  unfold b_X9_wordsOf_38_16
  rw [if_neg (nI_pos hp)]
  by_cases c : 41 ≤ p
  · rw [if_pos (show (41 : Int32) ≤ nI p from nI_le (a := 41) c hp), wm_hi 40 p 0 (by omega)]
    rfl
  · rw [if_neg (show ¬ (41 : Int32) ≤ nI p from nI_ge (a := p) (b := 41) (by omega) (by decide)), xin_t (show p < 41 by omega) (by decide), cond_true, nI_clamp hp, h p (by omega)]
theorem wo_m {n : Nat} (o38 : Nat → Int32) (a39 a40 : Nat → Int64) (a41 : Nat → Int32) : b_X9_wordsOf_38_16 n o38 a39 a40 a41 (-1) = some (0, o38, a39, a40, a41) := by
  unfold b_X9_wordsOf_38_16
  rw [if_pos (by decide)]
theorem wo_is {n : Nat} (hn : 300 ≤ n) {o38 : Nat → Int32} {a39 : Nat → Int64} (a40 : Nat → Int64) {a41 : Nat → Int32} (h : iV o38 a39 a41) : ∃ o x y z, o 3 = 1 ∧ (∀ k, k < 41 → x k = lN (wm 40 k 0)) ∧ ∀ p1, f_X9_wordsOf_38 n o38 a39 a40 a41 p1 = b_X9_wordsOf_38_16 n o x y z p1 := by
  unfold f_X9_wordsOf_38
  rcases h with ⟨h1, h2, h3⟩ | ⟨h1, h2⟩
  · obtain ⟨x, y, z, e1, e2⟩ := cw_is hn o38 a40 h2 h3
    refine ⟨upd o38 3 1, x, y, z, upd_s _ _ _, e2, fun p1 => ?_⟩
    rw [if_pos h1, e1]
    rfl
  · refine ⟨o38, a39, a40, a41, h1, h2, fun p1 => ?_⟩
    rw [if_neg (by rw [h1]; decide)]
theorem wo_p {n p : Nat} (hn : 300 ≤ n) {o38 : Nat → Int32} {a39 : Nat → Int64} (a40 : Nat → Int64) {a41 : Nat → Int32} (h : iV o38 a39 a41) (hp : p < 2 ^ 31) : ∃ o x y z, f_X9_wordsOf_38 n o38 a39 a40 a41 (nI p) = some (lN (wm 40 p 0), o, x, y, z) ∧ iV o x z := by
  obtain ⟨o, x, y, z, h1, h2, h3⟩ := wo_is hn a40 h
  exact ⟨o, x, y, z, by rw [h3, wo_t o x y z h2 hp], Or.inr ⟨h1, h2⟩⟩
theorem wo_n {n : Nat} (hn : 300 ≤ n) {o38 : Nat → Int32} {a39 : Nat → Int64} (a40 : Nat → Int64) {a41 : Nat → Int32} (h : iV o38 a39 a41) : ∃ o x y z, f_X9_wordsOf_38 n o38 a39 a40 a41 (-1) = some (0, o, x, y, z) ∧ iV o x z := by
  obtain ⟨o, x, y, z, h1, h2, h3⟩ := wo_is hn a40 h
  exact ⟨o, x, y, z, by rw [h3, wo_m], Or.inr ⟨h1, h2⟩⟩
