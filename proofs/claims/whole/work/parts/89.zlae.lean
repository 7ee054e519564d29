/-! the ladder: gained, odds, half -/
theorem ga_8 {n : Nat} (o44 a45 : Nat → Int32) (a60 : Nat → Int64) (l1 l2 : Int32) (l3 l5 : Int64) : ∀ (r k : Nat) (a : Nat → Int64), r ≤ 16 → r < k → (∀ j, j < 16 - r → a j = lN (if j = 0 then 1 else 0)) → ∃ y a', l_X12_gainedOf_44_8 n o44 a45 a60 l1 l2 l3 l5 k (nI (16 - r)) a = some (y, a') ∧ ∀ j, j < 16 → a' j = lN (if j = 0 then 1 else 0) := by
  intro r
  induction r with
  | zero =>
    intro k a _ hk ha
    obtain ⟨k, rfl⟩ : ∃ q, k = q + 1 := ⟨k - 1, by omega⟩
    rw [l_X12_gainedOf_44_8, if_pos (by decide)]
    exact ⟨_, a, rfl, ha⟩
  | succ r ih =>
    intro k a hr hk ha
    obtain ⟨k, rfl⟩ : ∃ q, k = q + 1 := ⟨k - 1, by omega⟩
    have c1 : ¬ (16 : Int32) ≤ nI (16 - (r + 1)) := nI_ge (a := 16 - (r + 1)) (b := 16) (by omega) (by decide)
    have key : ∀ v : Int64, v = lN (if 16 - (r + 1) = 0 then 1 else 0) → ∀ j, j < 16 - r → vp_updL a (16 - (r + 1)) v j = lN (if j = 0 then 1 else 0) := by
      intro v hv j hj
      by_cases cj : j = 16 - (r + 1)
      · subst cj
        rw [updL_s, hv]
      · rw [updL_n _ _ cj]
        exact ha j (by omega)
    rw [l_X12_gainedOf_44_8, if_neg c1, xin_t (show 16 - (r + 1) < 16 by omega) (by decide), cond_true, cond_true, nI_clamp (by omega), nI_1, show 16 - (r + 1) + 1 = 16 - r by omega]
    by_cases c2 : 16 - (r + 1) = 0
    · rw [if_pos (by rw [c2]; rfl)]
      exact ih k _ (by omega) (by omega) (key 1 (by rw [if_pos c2]; rfl))
    · rw [if_neg (fun e => c2 ((nI_eq0 (by omega)).mp e))]
      exact ih k _ (by omega) (by omega) (key 0 (by rw [if_neg c2]; rfl))
theorem ga_67 {n : Nat} (o44 a45 : Nat → Int32) (a59 : Nat → Int64) (l1 l2 : Int32) (l3 l5 : Int64) (l7 : Int32) (l8 : Int64) : ∀ (r k : Nat) (a : Nat → Int64), r ≤ 16 → r < k → (∀ j, j < 16 - r → a j = lN 0) → ∃ y a', l_X12_gainedOf_44_67 n o44 a45 a59 l1 l2 l3 l5 l7 l8 k (nI (16 - r)) a = some (y, a') ∧ ∀ j, j < 16 → a' j = lN 0 := by
  intro r
  induction r with
  | zero =>
    intro k a _ hk ha
    obtain ⟨k, rfl⟩ : ∃ q, k = q + 1 := ⟨k - 1, by omega⟩
    rw [l_X12_gainedOf_44_67, if_pos (by decide)]
    exact ⟨_, a, rfl, ha⟩
  | succ r ih =>
    intro k a hr hk ha
    obtain ⟨k, rfl⟩ : ∃ q, k = q + 1 := ⟨k - 1, by omega⟩
    have c1 : ¬ (16 : Int32) ≤ nI (16 - (r + 1)) := nI_ge (a := 16 - (r + 1)) (b := 16) (by omega) (by decide)
    rw [l_X12_gainedOf_44_67, if_neg c1, xin_t (show 16 - (r + 1) < 16 by omega) (by decide), cond_true, nI_clamp (by omega), nI_1, show 16 - (r + 1) + 1 = 16 - r by omega]
    refine ih k _ (by omega) (by omega) ?_
    intro j hj
    by_cases cj : j = 16 - (r + 1)
    · subst cj
      rw [updL_s]
      rfl
    · rw [updL_n _ _ cj]
      exact ha j (by omega)
theorem ga_196 {n : Nat} (o44 a45 : Nat → Int32) (a60 : Nat → Int64) (l1 l2 : Int32) (l3 l5 : Int64) (l7 : Int32) : ∀ (r k : Nat) (a : Nat → Int64), r ≤ 16 → r < k → (∀ j, j < 16 - r → a j = a60 j) → ∃ y a', l_X12_gainedOf_44_196 n o44 a45 a60 l1 l2 l3 l5 l7 k (nI (16 - r)) a = some (y, a') ∧ ∀ j, j < 16 → a' j = a60 j := by
  intro r
  induction r with
  | zero =>
    intro k a _ hk ha
    obtain ⟨k, rfl⟩ : ∃ q, k = q + 1 := ⟨k - 1, by omega⟩
    rw [l_X12_gainedOf_44_196, if_pos (by decide)]
    exact ⟨_, a, rfl, ha⟩
  | succ r ih =>
    intro k a hr hk ha
    obtain ⟨k, rfl⟩ : ∃ q, k = q + 1 := ⟨k - 1, by omega⟩
    have c1 : ¬ (16 : Int32) ≤ nI (16 - (r + 1)) := nI_ge (a := 16 - (r + 1)) (b := 16) (by omega) (by decide)
    rw [l_X12_gainedOf_44_196, if_neg c1, xin_t (show 16 - (r + 1) < 16 by omega) (by decide), cond_true, cond_true, nI_clamp (by omega), nI_1, show 16 - (r + 1) + 1 = 16 - r by omega]
    refine ih k _ (by omega) (by omega) ?_
    intro j hj
    by_cases cj : j = 16 - (r + 1)
    · subst cj
      rw [updL_s]
    · rw [updL_n _ _ cj]
      exact ha j (by omega)
theorem ga_102 {n Q c : Nat} (o44 : Nat → Int32) {a45 : Nat → Int32} {a59 : Nat → Int64} (l1 : Int32) (l7 : Int32) (h45 : a45 2 = nI Q) (hQ : 1 ≤ Q ∧ Q ≤ 16) (hc : c ≤ 256) {W : Nat → Nat} (hW : ∀ j, j < Q → a59 j = lN (W (j + 1))) (U : Nat) : ∀ (r k : Nat) (a : Nat → Int64), r ≤ Q → r < k → (∀ j, j < Q → a j = lN (if j ≤ Q - r then W j * c else 0)) → ∃ y a', l_X12_gainedOf_44_102 n o44 a45 a59 l1 (nI c) l7 k (lN (if r = 0 then U + W Q * c else U)) (lN ((W 0 + rT W (Q - r)) * (256 - c))) (nI (Q - r)) a = some (lN (U + W Q * c), lN ((W 0 + rT W Q) * (256 - c)), y, a') ∧ ∀ j, j < Q → a' j = lN (W j * c) := by
  intro r
  induction r with
  | zero =>
    intro k a _ hk h2
    obtain ⟨k, rfl⟩ : ∃ q, k = q + 1 := ⟨k - 1, by omega⟩
    rw [l_X12_gainedOf_44_102, h45, Nat.sub_zero, if_pos (nI_le (Nat.le_refl _) (by omega)), if_pos rfl]
    refine ⟨_, a, rfl, fun j hj => ?_⟩
    rw [h2 j hj, if_pos (by omega)]
  | succ r ih =>
    intro k a hr hk h2
    obtain ⟨k, rfl⟩ : ∃ q, k = q + 1 := ⟨k - 1, by omega⟩
    rw [if_neg (Nat.succ_ne_zero r)]
    have hi : Q - (r + 1) < Q := by omega
    have hi2 : Q - r = Q - (r + 1) + 1 := by omega
    have hi3 : r = 0 ↔ Q - (r + 1) + 1 = Q := by omega
    rw [l_X12_gainedOf_44_102, h45]
    rw [hi2] at ih
    generalize Q - (r + 1) = i at *
    rw [if_neg (nI_ge hi (by omega)), xin_t (show i < 16 by omega) (by decide)]
    simp only [cond_true]
    rw [nI_1, nI_clamp (by omega), show (256 : Int32) - nI c = nI (256 - c) from nI_sb (a := 256) (b := c) (by omega), nI_l (show c < 2 ^ 31 by omega), nI_l (show 256 - c < 2 ^ 31 by omega), hW i hi, lN_mul, lN_mul, lN_add ((W 0 + rT W i) * (256 - c)) (W (i + 1) * (256 - c)), ← Nat.add_mul, show W 0 + rT W i + W (i + 1) = W 0 + rT W (i + 1) by rw [rT]; omega]
    by_cases c2 : i + 1 = Q
    · have r0 : r = 0 := hi3.mpr c2
      rw [if_pos (show nI (i + 1) = nI Q by rw [c2]), lN_add]
      have := ih k a (by omega) (by omega) (fun j hj => by
        rw [h2 j hj, if_pos (by omega), if_pos (by omega)])
      rw [if_pos r0] at this
      rw [show W (i + 1) = W Q by rw [c2]]
      exact this
    · have r0 : r ≠ 0 := fun e => c2 (hi3.mp e)
      rw [if_neg (fun e => c2 ((nI_eq (by omega) (by omega)).mp e)), xin_t (show i + 1 < 16 by omega) (by decide)]
      simp only [cond_true]
      rw [nI_clamp (by omega), h2 (i + 1) (by omega), if_neg (by omega), lN_add, Nat.zero_add]
      have := ih k (vp_updL a (i + 1) (lN (W (i + 1) * c))) (by omega) (by omega) (fun j hj => by
        by_cases cj : j = i + 1
        · subst cj
          rw [updL_s, if_pos (Nat.le_refl _)]
        · rw [updL_n _ _ cj, h2 j hj]
          by_cases cj2 : j ≤ i
          · rw [if_pos cj2, if_pos (by omega)]
          · rw [if_neg cj2, if_neg (by omega)])
      rw [if_neg r0] at this
      exact this
theorem ga_41 {n Q c : Nat} (hn : 50 ≤ n) (o44 : Nat → Int32) {a45 : Nat → Int32} (h45 : a45 2 = nI Q) (hQ : 1 ≤ Q ∧ Q ≤ 16) (hc : c ≤ 256) {p : Nat} (hp : p < 2 ^ 31) : ∀ (r k : Nat) (a b : Nat → Int64), r ≤ p → r < k → (∀ j, j < Q → a j = lN (rW (Q + 1) c 1 (p - r) (j + 1))) → ∃ x y a' b', l_X12_gainedOf_44_41 n o44 a45 (nI p) (nI c) k (lN (rU (Q + 1) c 1 (p - r))) (lN (rW (Q + 1) c 1 (p - r) 0)) (nI (p - r)) a b = some (lN (rU (Q + 1) c 1 p), x, y, a', b') := by
  intro r
  induction r with
  | zero =>
    intro k a b _ hk ha
    obtain ⟨k, rfl⟩ : ∃ q, k = q + 1 := ⟨k - 1, by omega⟩
    rw [l_X12_gainedOf_44_41, Nat.sub_zero, if_pos (nI_le (Nat.le_refl _) hp)]
    exact ⟨_, _, a, b, rfl⟩
  | succ r ih =>
    intro k a b hr hk ha
    obtain ⟨k, rfl⟩ : ∃ q, k = q + 1 := ⟨k - 1, by omega⟩
    have hi : p - (r + 1) < p := by omega
    have hi2 : p - r = p - (r + 1) + 1 := by omega
    rw [l_X12_gainedOf_44_41]
    rw [hi2] at ih
    generalize p - (r + 1) = i at *
    rw [if_neg (nI_ge hi hp), show lN (rU (Q + 1) c 1 i) * 256 = lN (rU (Q + 1) c 1 i * 256) from lN_mul _ 256, show (256 : Int32) - nI c = nI (256 - c) from nI_sb (a := 256) (b := c) (by omega), nI_l (show c < 2 ^ 31 by omega), nI_l (show 256 - c < 2 ^ 31 by omega), lN_mul, lN_mul]
    obtain ⟨y1, b1, e1, g1⟩ := ga_67 (n := n) o44 a45 a (nI p) (nI c) (lN (rU (Q + 1) c 1 i * 256)) (lN (rW (Q + 1) c 1 i 0)) (nI i) (lN (rW (Q + 1) c 1 i 0 * (256 - c))) 16 n b (by omega) (by omega) (fun j hj => absurd hj (by omega))
    rw [show nI (16 - 16) = (0 : Int32) from rfl] at e1
    rw [e1, Option.bind_some]
    obtain ⟨y2, b2, e2, g2⟩ := ga_102 (n := n) o44 (nI p) (nI i) h45 hQ hc (W := rW (Q + 1) c 1 i) ha (rU (Q + 1) c 1 i * 256) Q n (vp_updL b1 0 (lN (rW (Q + 1) c 1 i 0 * c))) (Nat.le_refl _) (by omega) (fun j hj => by
      rw [Nat.sub_self]
      by_cases cj : j = 0
      · subst cj
        rw [updL_s, if_pos (Nat.le_refl _)]
      · rw [updL_n _ _ cj, g1 j (by omega), if_neg (by omega)])
    rw [if_neg (by omega), Nat.sub_self, show nI 0 = (0 : Int32) from rfl, show rW (Q + 1) c 1 i 0 + rT (rW (Q + 1) c 1 i) 0 = rW (Q + 1) c 1 i 0 from rfl] at e2
    simp only []
    rw [e2, Option.bind_some]
    obtain ⟨y3, a3, e3, g4⟩ := ga_196 (n := n) o44 a45 b2 (nI p) (nI c) (lN (rU (Q + 1) c 1 i * 256 + rW (Q + 1) c 1 i Q * c)) (lN ((rW (Q + 1) c 1 i 0 + rT (rW (Q + 1) c 1 i) Q) * (256 - c))) (nI i) 16 n a (by omega) (by omega) (fun j hj => absurd hj (by omega))
    rw [show nI (16 - 16) = (0 : Int32) from rfl] at e3
    simp only []
    rw [e3, Option.bind_some, nI_1]
    have eU : rU (Q + 1) c 1 i * 256 + rW (Q + 1) c 1 i Q * c = rU (Q + 1) c 1 (i + 1) := by rw [rU, Nat.add_sub_cancel]
    have eW : (rW (Q + 1) c 1 i 0 + rT (rW (Q + 1) c 1 i) Q) * (256 - c) = rW (Q + 1) c 1 (i + 1) 0 := by rw [rW, if_pos rfl, rT_S]
    rw [eU, eW]
    refine ih k a3 b2 (by omega) (by omega) (fun j hj => ?_)
    rw [g4 j (by omega), g2 j hj, rW, if_neg (Nat.succ_ne_zero j), Nat.add_sub_cancel]
theorem ga_is {n Q c p : Nat} (hn : 50 ≤ n) (o44 : Nat → Int32) {a45 : Nat → Int32} (a59 a60 : Nat → Int64) (h45 : a45 2 = nI Q) (hQ : 1 ≤ Q ∧ Q ≤ 16) (hc : c ≤ 256) (hp : p < 40) : ∃ x y, f_X12_gainedOf_44 n o44 a45 a59 a60 (nI p) (nI c) = some (lN (rU (Q + 1) c 1 p), x, y) := by
  unfold f_X12_gainedOf_44
  obtain ⟨y, a1, e1, e2⟩ := ga_8 (n := n) o44 a45 a60 (nI p) (nI c) 0 0 16 n a59 (by omega) (by omega) (fun j hj => absurd hj (by omega))
  rw [show nI (16 - 16) = (0 : Int32) from rfl] at e1
  rw [e1]
  simp only [Option.bind_some]
  obtain ⟨w, z, a2, b2, e3⟩ := ga_41 hn o44 h45 hQ hc (p := p) (by omega) p n a1 a60 (Nat.le_refl _) (by omega) (fun j hj => by
    rw [Nat.sub_self, rW, e2 j (by omega)]
    by_cases cj : j = 0
    · rw [if_pos cj, if_pos (by omega)]
    · rw [if_neg cj, if_neg (by omega)])
  rw [Nat.sub_self, show lN (rU (Q + 1) c 1 0) = (0 : Int64) from rfl, show lN (rW (Q + 1) c 1 0 0) = (0 : Int64) from rfl, show nI 0 = (0 : Int32) from rfl] at e3
  rw [e3]
  exact ⟨_, _, rfl⟩
/-- how many ways up: by the side, the looks, the word's number -/
def rA (T : Nat → Nat) (d p w : Nat) : Nat := if d = 0 then rU (T 1) (256 - w) 0 p else rU (T 2 + 1) w 1 p
theorem oc_is {n : Nat} (hn : 50 ≤ n) {T : Nat → Nat} {a1 a45 : Nat → Int32} (hT : iT T a1 a45) (a43 : Nat → Int64) {d p w : Nat} (hd : d < 2) (hp : p < 40) (hw : w ≤ 256) : ∃ a', f_X11_oddsOf_0 n a1 a43 (nI d) (nI p) (nI w) = some (lN (rA T d p w), a') := by
  have h1 := hT.2.2.1
  have h2 := hT.2.2.2.1
  unfold f_X11_oddsOf_0 b_X11_oddsOf_0_9 f_X11_rungsOf_0 f_X11_climbsOf rA
  by_cases c : d = 0
  · subst c
    rw [if_pos (show nI 0 = 0 from rfl), if_pos (show nI 0 = 0 from rfl), if_pos (show nI 0 = 0 from rfl), if_pos rfl, (hT.1 1 (by decide)).1, show (256 : Int32) - nI w = nI (256 - w) from nI_sb (a := 256) hw]
    simp only [Option.bind_some]
    obtain ⟨a', e⟩ := wu_is (n := n) (R := T 1) (c := 256 - w) (t0 := 0) hn (by omega) (by omega) (by omega) hp a43
    rw [show nI 0 = (0 : Int32) from rfl] at e
    rw [e]
    exact ⟨_, rfl⟩
  · obtain rfl : d = 1 := by omega
    rw [if_neg (show ¬ nI 1 = 0 by decide), if_neg (show ¬ nI 1 = 0 by decide), if_neg (show ¬ nI 1 = 0 by decide), if_neg c, (hT.1 2 (by decide)).1, nI_1]
    simp only [Option.bind_some]
    obtain ⟨a', e⟩ := wu_is (n := n) (R := T 2 + 1) (c := w) (t0 := 1) hn (by omega) (by omega) (by omega) hp a43
    rw [show nI 1 = (1 : Int32) from rfl] at e
    rw [e]
    exact ⟨_, rfl⟩
theorem om_is {n : Nat} (hn : 50 ≤ n) {T : Nat → Nat} {a1 a45 : Nat → Int32} (hT : iT T a1 a45) (o44 : Nat → Int32) (a59 a60 : Nat → Int64) {d p w : Nat} (hd : d < 2) (hp : p < 40) (hw : w ≤ 256) : ∃ x y, f_X12_oddsOf_44 n o44 a45 a59 a60 (nI d) (nI p) (nI w) = some (lN (rA T d p w), x, y) := by
  have h1 := hT.2.2.1
  have h2 := hT.2.2.2.1
  unfold f_X12_oddsOf_44 rA
  by_cases c : d = 0
  · subst c
    rw [if_pos (show nI 0 = 0 from rfl), if_pos rfl]
    obtain ⟨x, y, e⟩ := lo_is (n := n) (R := T 1) (c := 256 - w) (p := p) hn o44 a59 a60 (hT.1 1 (by decide)).2 (by omega) (by omega) hp
    rw [show 256 - (256 - w) = w by omega] at e
    rw [e]
    exact ⟨_, _, rfl⟩
  · obtain rfl : d = 1 := by omega
    rw [if_neg (show ¬ nI 1 = 0 by decide), if_neg c]
    obtain ⟨x, y, e⟩ := ga_is (n := n) (Q := T 2) (c := w) (p := p) hn o44 a59 a60 (hT.1 2 (by decide)).2 (by omega) hw hp
    rw [e]
    exact ⟨_, _, rfl⟩
theorem half_l {n : Nat} (hn : 50 ≤ n) {T : Nat → Nat} {a1 a45 : Nat → Int32} (hT : iT T a1 a45) (o44 : Nat → Int32) {d w : Nat} (hd : d < 2) (hw : w ≤ 256) : ∀ (r k : Nat) (a43 a59 a60 : Nat → Int64), r ≤ 8 → r < k → ∃ a x y z, (l_X11_half_0_28 n a1 (nI d) (nI w) k (nI (8 - r)) a43 = some (Sum.inl (a, x)) ∧ l_X12_half_44_35 n o44 a45 (nI d) (nI w) k (nI (8 - r)) a59 a60 = some (Sum.inl (a, o44, y, z))) ∨ (l_X11_half_0_28 n a1 (nI d) (nI w) k (nI (8 - r)) a43 = some (Sum.inr (a, x)) ∧ l_X12_half_44_35 n o44 a45 (nI d) (nI w) k (nI (8 - r)) a59 a60 = some (Sum.inr (a, y, z))) := by
  intro r
  induction r with
  | zero =>
    intro k a43 a59 a60 _ hk
    obtain ⟨k, rfl⟩ : ∃ q, k = q + 1 := ⟨k - 1, by omega⟩
    rw [l_X11_half_0_28, l_X12_half_44_35, if_pos (by decide), if_pos (by decide)]
    exact ⟨_, _, _, _, Or.inr ⟨rfl, rfl⟩⟩
  | succ r ih =>
    intro k a43 a59 a60 hr hk
    obtain ⟨k, rfl⟩ : ∃ q, k = q + 1 := ⟨k - 1, by omega⟩
    have hi : 8 - (r + 1) < 8 := by omega
    have hi2 : 8 - r = 8 - (r + 1) + 1 := by omega
    rw [l_X11_half_0_28, l_X12_half_44_35]
    rw [hi2] at ih
    generalize 8 - (r + 1) = i at *
    obtain ⟨x, e1⟩ := oc_is hn hT a43 hd (show i < 40 by omega) hw
    obtain ⟨y, z, e2⟩ := om_is hn hT o44 a59 a60 hd (show i < 40 by omega) hw
    rw [if_neg (show ¬ (7 : Int32) < nI i from nI_nlt (a := 7) (by omega) (by decide)), if_neg (show ¬ (8 : Int32) ≤ nI i from nI_ge (a := i) (b := 8) (by omega) (by decide)), e1, e2]
    unfold f_X12_all
    simp only [Option.bind_some]
    rw [nI_1]
    by_cases c : lg_cmp (2 * lN (rA T d i w)) (1 <<< (Int32.toInt64 (8 * nI i) &&& 63)) < 0
    · rw [if_pos c, if_pos c]
      exact ih k x y z (by omega) (by omega)
    · rw [if_neg c, if_neg c]
      exact ⟨_, _, _, _, Or.inl ⟨rfl, rfl⟩⟩
theorem k_half {n : Nat} (hn : 50 ≤ n) {T : Nat → Nat} {a1 a45 : Nat → Int32} (hT : iT T a1 a45) (o44 : Nat → Int32) (a43 a59 a60 : Nat → Int64) (p1 p2 : Int32) : ∃ a x y z, f_X11_half_0 n a1 a43 p1 p2 = some (a, x) ∧ f_X12_half_44 n o44 a45 a59 a60 p1 p2 = some (a, upd o44 0 0, y, z) := by
  unfold f_X11_half_0 f_X12_half_44
  rw [isW, isW, isIn_w p1 0 1 0 1 rfl rfl, isIn_w p2 0 256 0 256 rfl rfl]
  simp only [Option.bind_some]
  by_cases c0 : 0 ≤ p1 ∧ p1 ≤ 1
  · rw [if_pos c0, if_neg one_ne, if_neg one_ne]
    by_cases c : 0 ≤ p2 ∧ p2 ≤ 256
    · rw [if_pos c, if_neg one_ne, if_neg one_ne]
      obtain ⟨d, -, hd, rfl⟩ := i32_in (a := 0) (b := 1) (by decide) c0 (by decide)
      obtain ⟨w, -, hw, rfl⟩ := i32_in (a := 0) (b := 256) (by decide) c (by decide)
      obtain ⟨a, x, y, z, h⟩ := half_l hn hT (upd o44 0 0) (d := d) (by omega) hw 8 n a43 a59 a60 (by omega) (by omega)
      rw [show nI (8 - 8) = (0 : Int32) from rfl] at h
      rcases h with ⟨e1, e2⟩ | ⟨e1, e2⟩
      · rw [e1, e2]
        exact ⟨_, _, _, _, rfl, rfl⟩
      · rw [e1, e2]
        exact ⟨_, _, _, _, rfl, rfl⟩
    · rw [if_neg c, if_pos rfl, if_pos rfl]
      exact ⟨_, _, _, _, rfl, rfl⟩
  · rw [if_neg c0, if_pos rfl, if_pos rfl]
    exact ⟨_, _, _, _, rfl, rfl⟩
