/-! the ladder -/
def rS (f : Nat → Nat) : Nat → Nat
  | 0 => 0
  | j + 1 => rS f j + f j
def rT (f : Nat → Nat) : Nat → Nat
  | 0 => 0
  | j + 1 => rT f j + f (j + 1)
theorem rT_S (f : Nat → Nat) (m : Nat) : f 0 + rT f m = rS f (m + 1) := by
  induction m with
  | zero => rw [rT, rS, rS]; omega
  | succ m ih => rw [rT, rS, ← ih]; omega
theorem rT_S1 (f : Nat → Nat) (m : Nat) : rT f m = rS (fun j => f (j + 1)) m := by
  induction m with
  | zero => rfl
  | succ m ih => rw [rT, rS, ih]
theorem rS_mul (f : Nat → Nat) (x m : Nat) : rS (fun j => f j * x) m = rS f m * x := by
  induction m with
  | zero => rw [rS, rS, Nat.zero_mul]
  | succ m ih => rw [rS, rS, ih, Nat.add_mul]
def rW (R c t0 : Nat) : Nat → Nat → Nat
  | 0, j => if j = t0 then 1 else 0
  | i + 1, j => if j = 0 then rS (rW R c t0 i) R * (256 - c) else rW R c t0 i (j - 1) * c
def rU (R c t0 : Nat) : Nat → Nat
  | 0 => 0
  | i + 1 => rU R c t0 i * 256 + rW R c t0 i (R - 1) * c
theorem wu_86 {n : Nat} (l1 l3 l7 : Int32) (l5 : Int64) {c : Nat} (hc : c ≤ 256) (W : Nat → Nat) {M : Nat} (hM : M < 17) : ∀ (m k x : Nat) (a : Nat → Int64), m ≤ M → m < k → (∀ j, j ≤ m → a j = lN (W j)) → (∀ j, m < j → j ≤ M → a j = lN (W (j - 1) * c)) → ∃ y a', l_X3_waysUp_42_86 n l1 l3 (nI c) l5 l7 k (lN x) (nI m) a = some (lN (x + rT W m), y, a') ∧ a' 0 = lN (W 0) ∧ ∀ j, 0 < j → j ≤ M → a' j = lN (W (j - 1) * c) := by
  intro m
  induction m with
  | zero =>
    intro k x a _ hk h1 h2
    obtain ⟨k, rfl⟩ : ∃ q, k = q + 1 := ⟨k - 1, by omega⟩
    rw [l_X3_waysUp_42_86, if_pos (by decide), rT, Nat.add_zero]
    exact ⟨_, a, rfl, h1 0 (Nat.le_refl _), h2⟩
  | succ m ih =>
    intro k x a hm hk h1 h2
    obtain ⟨k, rfl⟩ : ∃ q, k = q + 1 := ⟨k - 1, by omega⟩
    rw [l_X3_waysUp_42_86, if_neg (nI_nle (by omega) (by omega)), show nI (m + 1) - 1 = nI m from nI_sb (a := m + 1) (b := 1) (by omega), xin_t (show m + 1 < 17 by omega) (by decide), xin_t (show m < 17 by omega) (by decide)]
    simp only [cond_true]
    rw [nI_clamp (by omega), nI_clamp (by omega), nI_m1, h1 (m + 1) (Nat.le_refl _), h1 m (by omega), nI_l (show c < 2 ^ 31 by omega), lN_mul, lN_add]
    obtain ⟨y, a', e1, e2, e3⟩ := ih k (x + W (m + 1)) (vp_updL a (m + 1) (lN (W m * c))) (by omega) (by omega) (fun j hj => by
      rw [updL_n _ _ (by omega)]
      exact h1 j (by omega)) (fun j hj hj2 => by
      by_cases cj : j = m + 1
      · subst cj
        rw [updL_s, Nat.add_sub_cancel]
      · rw [updL_n _ _ cj]
        exact h2 j (by omega) hj2)
    refine ⟨y, a', ?_, e2, e3⟩
    rw [e1, rT, show x + W (m + 1) + rT W m = x + (rT W m + W (m + 1)) by omega]
theorem wu_46 {n R c t0 : Nat} (hn : 50 ≤ n) (hR : 1 ≤ R ∧ R ≤ 17) (hc : c ≤ 256) {p : Nat} (hp : p < 2 ^ 31) : ∀ (r k : Nat) (a : Nat → Int64), r ≤ p → r < k → (∀ j, j < R → a j = lN (rW R c t0 (p - r) j)) → ∃ y a', l_X3_waysUp_42_46 n (nI R) (nI p) (nI c) k (lN (rU R c t0 (p - r))) (nI (p - r)) a = some (lN (rU R c t0 p), y, a') := by
  intro r
  induction r with
  | zero =>
    intro k a _ hk ha
    obtain ⟨k, rfl⟩ : ∃ q, k = q + 1 := ⟨k - 1, by omega⟩
    rw [l_X3_waysUp_42_46, Nat.sub_zero, if_pos (nI_le (Nat.le_refl _) hp)]
    exact ⟨_, a, rfl⟩
  | succ r ih =>
    intro k a hr hk ha
    obtain ⟨k, rfl⟩ : ∃ q, k = q + 1 := ⟨k - 1, by omega⟩
    have hi : p - (r + 1) < p := by omega
    have hi2 : p - r = p - (r + 1) + 1 := by omega
    rw [l_X3_waysUp_42_46]
    rw [hi2] at ih
    generalize p - (r + 1) = i at *
    have e0 : nI R - 1 = nI (R - 1) := nI_sb (b := 1) hR.1
    rw [if_neg (nI_ge hi hp), e0, xin_t (show R - 1 < 17 by omega) (by decide), cond_true, nI_clamp (by omega), ha (R - 1) (by omega), ha 0 (by omega), nI_l (show c < 2 ^ 31 by omega), lN_mul, show lN (rU R c t0 i) * 256 = lN (rU R c t0 i * 256) from lN_mul _ 256, lN_add]
    obtain ⟨y, a', e1, e2, e3⟩ := wu_86 (n := n) (nI R) (nI p) (nI i) (lN (rU R c t0 i * 256 + rW R c t0 i (R - 1) * c)) hc (rW R c t0 i) (M := R - 1) (by omega) (R - 1) n (rW R c t0 i 0) a (Nat.le_refl _) (by omega) (fun j hj => ha j (by omega)) (fun j hj hj2 => absurd hj (by omega))
    rw [e1, Option.bind_some]
    simp only []
    rw [nI_1, show (256 : Int32) - nI c = nI (256 - c) from nI_sb (a := 256) hc, nI_l (show 256 - c < 2 ^ 31 by omega), lN_mul, rT_S, show R - 1 + 1 = R by omega]
    refine ih k _ (by omega) (by omega) (fun j hj => ?_)
    by_cases cj : j = 0
    · subst cj
      rw [updL_s, rW, if_pos rfl]
    · rw [updL_n _ _ cj, e3 j (by omega) (by omega), rW, if_neg cj]
theorem fl43 {n : Nat} (x : Int64) : ∀ (r k : Nat) (a : Nat → Int64), r ≤ 17 → r < k → (∀ j, j < 17 - r → a j = x) → ∃ y a', l_J7_fill_d0a16_43_6 n x 17 k (nI (17 - r)) a = some (y, a') ∧ ∀ j, j < 17 → a' j = x := by
  intro r
  induction r with
  | zero =>
    intro k a _ hk ha
    obtain ⟨k, rfl⟩ : ∃ q, k = q + 1 := ⟨k - 1, by omega⟩
    rw [l_J7_fill_d0a16_43_6, if_pos (by decide)]
    exact ⟨_, a, rfl, ha⟩
  | succ r ih =>
    intro k a hr hk ha
    obtain ⟨k, rfl⟩ : ∃ q, k = q + 1 := ⟨k - 1, by omega⟩
    have c1 : ¬ (17 : Int32) ≤ nI (17 - (r + 1)) := nI_ge (a := 17 - (r + 1)) (b := 17) (by omega) (by decide)
    rw [l_J7_fill_d0a16_43_6, if_neg c1, xin_t (show 17 - (r + 1) < 17 by omega) (by decide), cond_true, nI_clamp (by omega), nI_1, show 17 - (r + 1) + 1 = 17 - r by omega]
    refine ih k _ (by omega) (by omega) ?_
    intro j hj
    by_cases cj : j = 17 - (r + 1)
    · subst cj
      rw [updL_s]
    · rw [updL_n _ _ cj]
      exact ha j (by omega)
theorem wu_is {n R c t0 p : Nat} (hn : 50 ≤ n) (hR : 1 ≤ R ∧ R ≤ 17) (hc : c ≤ 256) (ht : t0 < R) (hp : p < 40) (a43 : Nat → Int64) : ∃ a', f_X3_waysUp_42 n a43 (nI R) (nI t0) (nI p) (nI c) = some (lN (rU R c t0 p), a') := by
  unfold f_X3_waysUp_42 f_J7_fill_d0a16_43
  rw [if_neg (show ¬ nI R < 1 from nI_nlt (b := 1) hR.1 (by omega)), if_neg (show ¬ (17 : Int32) < nI R from nI_nlt (a := 17) hR.2 (by decide)), if_neg (nI_pos (by omega)), if_pos (nI_lt ht (by omega))]
  obtain ⟨y, a1, e1, e2⟩ := fl43 (n := n) 0 17 n a43 (by omega) (by omega) (fun j hj => absurd hj (by omega))
  rw [show nI (17 - 17) = (0 : Int32) from rfl] at e1
  rw [e1]
  simp only [Option.bind_some]
  rw [xin_t (show t0 < 17 by omega) (by decide), cond_true, nI_clamp (by omega)]
  obtain ⟨z, a2, e3⟩ := wu_46 (t0 := t0) hn hR hc (p := p) (by omega) p n (vp_updL a1 t0 1) (Nat.le_refl _) (by omega) (fun j hj => by
    rw [Nat.sub_self, rW]
    by_cases cj : j = t0
    · subst cj
      rw [updL_s, if_pos rfl]
      rfl
    · rw [updL_n _ _ cj, e2 j (by omega), if_neg cj]
      rfl)
  rw [Nat.sub_self, show lN (rU R c t0 0) = (0 : Int64) from rfl, show nI 0 = (0 : Int32) from rfl] at e3
  rw [e3]
  exact ⟨_, rfl⟩
/-- the model: lost -/
theorem lo_5 {n : Nat} (o44 a45 : Nat → Int32) (a60 : Nat → Int64) (l1 l2 : Int32) (l3 : Int64) : ∀ (r k : Nat) (a : Nat → Int64), r ≤ 16 → r < k → (∀ j, j < 16 - r → a j = lN (if j = 0 then 1 else 0)) → ∃ y a', l_X12_lostOf_44_5 n o44 a45 a60 l1 l2 l3 k (nI (16 - r)) a = some (y, a') ∧ ∀ j, j < 16 → a' j = lN (if j = 0 then 1 else 0) := by
  intro r
  induction r with
  | zero =>
    intro k a _ hk ha
    obtain ⟨k, rfl⟩ : ∃ q, k = q + 1 := ⟨k - 1, by omega⟩
    rw [l_X12_lostOf_44_5, if_pos (by decide)]
    exact ⟨_, a, rfl, ha⟩
  | succ r ih =>
    intro k a hr hk ha
    obtain ⟨k, rfl⟩ : ∃ q, k = q + 1 := ⟨k - 1, by omega⟩
    have c1 : ¬ (16 : Int32) ≤ nI (16 - (r + 1)) := nI_ge (a := 16 - (r + 1)) (b := 16) (by omega) (by decide)
    have key : ∀ v : Int64, v = lN (if 16 - (r + 1) = 0 then 1 else 0) → ∀ j, j < 16 - r → vp_updL a (16 - (r + 1)) v j = lN (if j = 0 then 1 else 0) := by
      intro v hv j hj
      by_cases cj : j = 16 - (r + 1)
      · subst cj
        rw [updL_s, hv]
      · rw [updL_n _ _ cj]
        exact ha j (by omega)
    rw [l_X12_lostOf_44_5, if_neg c1, xin_t (show 16 - (r + 1) < 16 by omega) (by decide), cond_true, cond_true, nI_clamp (by omega), nI_1, show 16 - (r + 1) + 1 = 16 - r by omega]
    by_cases c2 : 16 - (r + 1) = 0
    · rw [if_pos (by rw [c2]; rfl)]
      exact ih k _ (by omega) (by omega) (key 1 (by rw [if_pos c2]; rfl))
    · rw [if_neg (fun e => c2 ((nI_eq0 (by omega)).mp e))]
      exact ih k _ (by omega) (by omega) (key 0 (by rw [if_neg c2]; rfl))
theorem lo_53 {n : Nat} (o44 a45 : Nat → Int32) (a59 : Nat → Int64) (l1 l2 : Int32) (l3 : Int64) (l5 : Int32) : ∀ (r k : Nat) (a : Nat → Int64), r ≤ 16 → r < k → (∀ j, j < 16 - r → a j = lN 0) → ∃ y a', l_X12_lostOf_44_53 n o44 a45 a59 l1 l2 l3 l5 k (nI (16 - r)) a = some (y, a') ∧ ∀ j, j < 16 → a' j = lN 0 := by
  intro r
  induction r with
  | zero =>
    intro k a _ hk ha
    obtain ⟨k, rfl⟩ : ∃ q, k = q + 1 := ⟨k - 1, by omega⟩
    rw [l_X12_lostOf_44_53, if_pos (by decide)]
    exact ⟨_, a, rfl, ha⟩
  | succ r ih =>
    intro k a hr hk ha
    obtain ⟨k, rfl⟩ : ∃ q, k = q + 1 := ⟨k - 1, by omega⟩
    have c1 : ¬ (16 : Int32) ≤ nI (16 - (r + 1)) := nI_ge (a := 16 - (r + 1)) (b := 16) (by omega) (by decide)
    rw [l_X12_lostOf_44_53, if_neg c1, xin_t (show 16 - (r + 1) < 16 by omega) (by decide), cond_true, nI_clamp (by omega), nI_1, show 16 - (r + 1) + 1 = 16 - r by omega]
    refine ih k _ (by omega) (by omega) ?_
    intro j hj
    by_cases cj : j = 16 - (r + 1)
    · subst cj
      rw [updL_s]
      rfl
    · rw [updL_n _ _ cj]
      exact ha j (by omega)
theorem lo_175 {n : Nat} (o44 a45 : Nat → Int32) (a60 : Nat → Int64) (l1 l2 : Int32) (l3 : Int64) (l5 : Int32) : ∀ (r k : Nat) (a : Nat → Int64), r ≤ 16 → r < k → (∀ j, j < 16 - r → a j = a60 j) → ∃ y a', l_X12_lostOf_44_175 n o44 a45 a60 l1 l2 l3 l5 k (nI (16 - r)) a = some (y, a') ∧ ∀ j, j < 16 → a' j = a60 j := by
  intro r
  induction r with
  | zero =>
    intro k a _ hk ha
    obtain ⟨k, rfl⟩ : ∃ q, k = q + 1 := ⟨k - 1, by omega⟩
    rw [l_X12_lostOf_44_175, if_pos (by decide)]
    exact ⟨_, a, rfl, ha⟩
  | succ r ih =>
    intro k a hr hk ha
    obtain ⟨k, rfl⟩ : ∃ q, k = q + 1 := ⟨k - 1, by omega⟩
    have c1 : ¬ (16 : Int32) ≤ nI (16 - (r + 1)) := nI_ge (a := 16 - (r + 1)) (b := 16) (by omega) (by decide)
    rw [l_X12_lostOf_44_175, if_neg c1, xin_t (show 16 - (r + 1) < 16 by omega) (by decide), cond_true, cond_true, nI_clamp (by omega), nI_1, show 16 - (r + 1) + 1 = 16 - r by omega]
    refine ih k _ (by omega) (by omega) ?_
    intro j hj
    by_cases cj : j = 16 - (r + 1)
    · subst cj
      rw [updL_s]
    · rw [updL_n _ _ cj]
      exact ha j (by omega)
theorem lo_77 {n R c : Nat} (o44 : Nat → Int32) {a45 : Nat → Int32} {a59 : Nat → Int64} (l1 : Int32) (l5 : Int32) (h45 : a45 1 = nI R) (hR : 1 ≤ R ∧ R ≤ 16) (hc : c ≤ 256) {W : Nat → Nat} (hW : ∀ j, j < R → a59 j = lN (W j)) (U : Nat) : ∀ (r k : Nat) (a : Nat → Int64), r ≤ R → r < k → a 0 = lN (rS W (R - r) * (256 - c)) → (∀ j, 0 < j → j < R → a j = lN (if j ≤ R - r then W (j - 1) * c else 0)) → ∃ y a', l_X12_lostOf_44_77 n o44 a45 a59 l1 (nI (256 - c)) l5 k (lN (if r = 0 then U + W (R - 1) * c else U)) (nI (R - r)) a = some (lN (U + W (R - 1) * c), y, a') ∧ a' 0 = lN (rS W R * (256 - c)) ∧ ∀ j, 0 < j → j < R → a' j = lN (W (j - 1) * c) := by
  intro r
  induction r with
  | zero =>
    intro k a _ hk h1 h2
    obtain ⟨k, rfl⟩ : ∃ q, k = q + 1 := ⟨k - 1, by omega⟩
    rw [l_X12_lostOf_44_77, h45, Nat.sub_zero, if_pos (nI_le (Nat.le_refl _) (by omega)), if_pos rfl]
    refine ⟨_, a, rfl, h1, fun j hj hj2 => ?_⟩
    rw [h2 j hj hj2, if_pos (by omega)]
  | succ r ih =>
    intro k a hr hk h1 h2
    obtain ⟨k, rfl⟩ : ∃ q, k = q + 1 := ⟨k - 1, by omega⟩
    rw [if_neg (Nat.succ_ne_zero r)]
    have hi : R - (r + 1) < R := by omega
    have hi2 : R - r = R - (r + 1) + 1 := by omega
    have hi3 : r = 0 ↔ R - (r + 1) + 1 = R := by omega
    rw [l_X12_lostOf_44_77, h45]
    rw [hi2] at ih
    generalize R - (r + 1) = i at *
    rw [if_neg (nI_ge hi (by omega)), xin_t (show i < 16 by omega) (by decide)]
    simp only [cond_true]
    rw [nI_1, nI_clamp (by omega), show (256 : Int32) - nI (256 - c) = nI c from (nI_sb (a := 256) (b := 256 - c) (by omega)).trans (by congr 1; omega), nI_l (show c < 2 ^ 31 by omega), nI_l (show 256 - c < 2 ^ 31 by omega), hW i hi, lN_mul, lN_mul, h1, lN_add (rS W i * (256 - c)) (W i * (256 - c)), ← Nat.add_mul, show rS W i + W i = rS W (i + 1) from rfl]
    by_cases c2 : i + 1 = R
    · have r0 : r = 0 := hi3.mpr c2
      rw [if_pos (show nI (i + 1) = nI R by rw [c2]), lN_add]
      have := ih k (vp_updL a 0 (lN (rS W (i + 1) * (256 - c)))) (by omega) (by omega) (updL_s _ _ _) (fun j hj hj2 => by
        rw [updL_n _ _ (by omega), h2 j hj hj2, if_pos (by omega), if_pos (by omega)])
      rw [if_pos r0] at this
      rw [show W i = W (R - 1) by rw [← c2, Nat.add_sub_cancel]]
      exact this
    · have r0 : r ≠ 0 := fun e => c2 (hi3.mp e)
      rw [if_neg (fun e => c2 ((nI_eq (by omega) (by omega)).mp e)), xin_t (show i + 1 < 16 by omega) (by decide)]
      simp only [cond_true]
      rw [nI_clamp (by omega), updL_n _ _ (show i + 1 ≠ 0 by omega), h2 (i + 1) (by omega) (by omega), if_neg (by omega), lN_add, Nat.zero_add]
      have := ih k (vp_updL (vp_updL a 0 (lN (rS W (i + 1) * (256 - c)))) (i + 1) (lN (W i * c))) (by omega) (by omega) (by rw [updL_n _ _ (by omega), updL_s]) (fun j hj hj2 => by
        by_cases cj : j = i + 1
        · subst cj
          rw [updL_s, if_pos (Nat.le_refl _), Nat.add_sub_cancel]
        · rw [updL_n _ _ cj, updL_n _ _ (by omega), h2 j hj hj2]
          by_cases cj2 : j ≤ i
          · rw [if_pos cj2, if_pos (by omega)]
          · rw [if_neg cj2, if_neg (by omega)])
      rw [if_neg r0] at this
      exact this
theorem lo_38 {n R c : Nat} (hn : 50 ≤ n) (o44 : Nat → Int32) {a45 : Nat → Int32} (h45 : a45 1 = nI R) (hR : 1 ≤ R ∧ R ≤ 16) (hc : c ≤ 256) {p : Nat} (hp : p < 2 ^ 31) : ∀ (r k : Nat) (a b : Nat → Int64), r ≤ p → r < k → (∀ j, j < R → a j = lN (rW R c 0 (p - r) j)) → ∃ y a' b', l_X12_lostOf_44_38 n o44 a45 (nI p) (nI (256 - c)) k (lN (rU R c 0 (p - r))) (nI (p - r)) a b = some (lN (rU R c 0 p), y, a', b') := by
  intro r
  induction r with
  | zero =>
    intro k a b _ hk ha
    obtain ⟨k, rfl⟩ : ∃ q, k = q + 1 := ⟨k - 1, by omega⟩
    rw [l_X12_lostOf_44_38, Nat.sub_zero, if_pos (nI_le (Nat.le_refl _) hp)]
    exact ⟨_, a, b, rfl⟩
  | succ r ih =>
    intro k a b hr hk ha
    obtain ⟨k, rfl⟩ : ∃ q, k = q + 1 := ⟨k - 1, by omega⟩
    have hi : p - (r + 1) < p := by omega
    have hi2 : p - r = p - (r + 1) + 1 := by omega
    rw [l_X12_lostOf_44_38]
    rw [hi2] at ih
    generalize p - (r + 1) = i at *
    rw [if_neg (nI_ge hi hp), show lN (rU R c 0 i) * 256 = lN (rU R c 0 i * 256) from lN_mul _ 256]
    obtain ⟨y1, b1, e1, g1⟩ := lo_53 (n := n) o44 a45 a (nI p) (nI (256 - c)) (lN (rU R c 0 i * 256)) (nI i) 16 n b (by omega) (by omega) (fun j hj => absurd hj (by omega))
    rw [show nI (16 - 16) = (0 : Int32) from rfl] at e1
    rw [e1, Option.bind_some]
    obtain ⟨y2, b2, e2, g2, g3⟩ := lo_77 (n := n) o44 (nI p) (nI i) h45 hR hc ha (rU R c 0 i * 256) R n b1 (Nat.le_refl _) (by omega) (by rw [g1 0 (by decide), Nat.sub_self, rS, Nat.zero_mul]) (fun j hj hj2 => by rw [g1 j (by omega), if_neg (by omega)])
    rw [if_neg (by omega), Nat.sub_self, show nI 0 = (0 : Int32) from rfl] at e2
    simp only []
    rw [e2, Option.bind_some]
    obtain ⟨y3, a3, e3, g4⟩ := lo_175 (n := n) o44 a45 b2 (nI p) (nI (256 - c)) (lN (rU R c 0 i * 256 + rW R c 0 i (R - 1) * c)) (nI i) 16 n a (by omega) (by omega) (fun j hj => absurd hj (by omega))
    rw [show nI (16 - 16) = (0 : Int32) from rfl] at e3
    simp only []
    rw [e3, Option.bind_some, nI_1]
    refine ih k a3 b2 (by omega) (by omega) (fun j hj => ?_)
    rw [g4 j (by omega), rW]
    by_cases cj : j = 0
    · subst cj
      rw [if_pos rfl, g2]
    · rw [if_neg cj, g3 j (by omega) hj]
theorem lo_is {n R c p : Nat} (hn : 50 ≤ n) (o44 : Nat → Int32) {a45 : Nat → Int32} (a59 a60 : Nat → Int64) (h45 : a45 1 = nI R) (hR : 1 ≤ R ∧ R ≤ 16) (hc : c ≤ 256) (hp : p < 40) : ∃ x y, f_X12_lostOf_44 n o44 a45 a59 a60 (nI p) (nI (256 - c)) = some (lN (rU R c 0 p), x, y) := by
  unfold f_X12_lostOf_44
  obtain ⟨y, a1, e1, e2⟩ := lo_5 (n := n) o44 a45 a60 (nI p) (nI (256 - c)) 0 16 n a59 (by omega) (by omega) (fun j hj => absurd hj (by omega))
  rw [show nI (16 - 16) = (0 : Int32) from rfl] at e1
  rw [e1]
  simp only [Option.bind_some]
  obtain ⟨z, a2, b2, e3⟩ := lo_38 hn o44 h45 hR hc (p := p) (by omega) p n a1 a60 (Nat.le_refl _) (by omega) (fun j hj => by
    rw [Nat.sub_self, rW, e2 j (by omega)])
  rw [Nat.sub_self, show lN (rU R c 0 0) = (0 : Int64) from rfl, show nI 0 = (0 : Int32) from rfl] at e3
  rw [e3]
  exact ⟨_, _, rfl⟩
