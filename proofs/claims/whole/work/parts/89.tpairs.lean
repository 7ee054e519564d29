/-! pairs of bits -/
theorem shareOf_is {a36 : Nat → Int32} (h : ∀ j, j < 40 → a36 j = nI (pw (39 - j))) {b : Nat} (hb : b < 40) : f_X1_shareOf_35 a36 (nI b) = some (nI (pw (39 - b))) := by
  unfold f_X1_shareOf_35
  rw [if_neg (nI_pos (by omega)), if_neg (show ¬ (40 : Int32) ≤ nI b from nI_ge (a := b) (b := 40) (by omega) (by decide)), xin_nI (by omega), show decide (b < 40) = true from decide_eq_true hb, cond_true, nI_clamp (by omega), h b hb]
theorem pairs_in {n : Nat} (hn : 50 ≤ n) {a36 : Nat → Int32} (h : ∀ j, j < 40 → a36 j = nI (pw (39 - j))) (o44 : Nat → Int32) (x y : Int32) {b : Nat} (hb : b < 40) : ∀ (m k : Nat) (c : Int32), m ≤ 40 → m < k → (∃ a, l_X1_pairOf_35_18 n a36 x y (nI b) k c (nI (40 - m)) = some (Sum.inl a) ∧ l_X12_pairs_44_43 n o44 x y (nI b) k c (nI (40 - m)) = some (Sum.inl (a, o44))) ∨ (∃ a, l_X1_pairOf_35_18 n a36 x y (nI b) k c (nI (40 - m)) = some (Sum.inr a) ∧ l_X12_pairs_44_43 n o44 x y (nI b) k c (nI (40 - m)) = some (Sum.inr a)) := by
  intro m
  induction m with
  | zero =>
    intro k c _ hk
    obtain ⟨k, rfl⟩ : ∃ q, k = q + 1 := ⟨k - 1, by omega⟩
    have c1 : (40 : Int32) ≤ nI (40 - 0) := by decide
    rw [l_X1_pairOf_35_18, l_X12_pairs_44_43, if_pos c1, if_pos c1]
    exact Or.inr ⟨_, rfl, rfl⟩
  | succ m ih =>
    intro k c hm hk
    obtain ⟨k, rfl⟩ : ∃ q, k = q + 1 := ⟨k - 1, by omega⟩
    have c1 : ¬ (40 : Int32) ≤ nI (40 - (m + 1)) := nI_ge (a := 40 - (m + 1)) (b := 40) (by omega) (by decide)
    rw [l_X1_pairOf_35_18, l_X12_pairs_44_43, if_neg c1, if_neg c1, shareOf_is h hb, shareOf_is h (show 40 - (m + 1) < 40 by omega), markOf_is (by omega) hb, markOf_is (by omega) (show 40 - (m + 1) < 40 by omega)]
    simp only [Option.bind_some]
    have e : nI (40 - (m + 1)) + 1 = nI (40 - m) := by rw [nI_1]; congr 1; omega
    rw [e]
    by_cases c2 : nI (pw (39 - b)) ^^^ nI (pw (39 - (40 - (m + 1)))) = x
    · rw [if_pos c2, if_pos c2]
      by_cases c3 : c = y
      · rw [if_pos c3, if_pos c3]
        exact Or.inl ⟨_, rfl, rfl⟩
      · rw [if_neg c3, if_neg c3]
        exact ih k (c + 1) (by omega) (by omega)
    · rw [if_neg c2, if_neg c2]
      exact ih k c (by omega) (by omega)
theorem pairs_out {n : Nat} (hn : 50 ≤ n) {a36 : Nat → Int32} (h : ∀ j, j < 40 → a36 j = nI (pw (39 - j))) (o44 : Nat → Int32) (x y : Int32) : ∀ (m k : Nat) (c : Int32), m ≤ 40 → m < k → (∃ a, l_X1_pairOf_35_5 n a36 x y k c (nI (40 - m)) = some (Sum.inl a) ∧ l_X12_pairs_44_30 n o44 x y k c (nI (40 - m)) = some (Sum.inl (a, o44))) ∨ (∃ a, l_X1_pairOf_35_5 n a36 x y k c (nI (40 - m)) = some (Sum.inr a) ∧ l_X12_pairs_44_30 n o44 x y k c (nI (40 - m)) = some (Sum.inr a)) := by
  intro m
  induction m with
  | zero =>
    intro k c _ hk
    obtain ⟨k, rfl⟩ : ∃ q, k = q + 1 := ⟨k - 1, by omega⟩
    have c1 : (40 : Int32) ≤ nI (40 - 0) := by decide
    rw [l_X1_pairOf_35_5, l_X12_pairs_44_30, if_pos c1, if_pos c1]
    exact Or.inr ⟨_, rfl, rfl⟩
  | succ m ih =>
    intro k c hm hk
    obtain ⟨k, rfl⟩ : ∃ q, k = q + 1 := ⟨k - 1, by omega⟩
    have c1 : ¬ (40 : Int32) ≤ nI (40 - (m + 1)) := nI_ge (a := 40 - (m + 1)) (b := 40) (by omega) (by decide)
    rw [l_X1_pairOf_35_5, l_X12_pairs_44_30, if_neg c1, if_neg c1]
    have e : nI (40 - (m + 1)) + 1 = nI (40 - m) := by rw [nI_1]; congr 1; omega
    rw [e]
    rcases pairs_in hn h o44 x y (show 40 - (m + 1) < 40 by omega) m n c (by omega) (by omega) with ⟨a, e1, e2⟩ | ⟨a, e1, e2⟩
    · rw [e1, e2]
      exact Or.inl ⟨_, rfl, rfl⟩
    · rw [e1, e2]
      exact ih k a.1 (by omega) (by omega)
theorem k_pairs {n : Nat} (hn : 50 ≤ n) {a36 : Nat → Int32} (h : ∀ j, j < 40 → a36 j = nI (pw (39 - j))) (o44 : Nat → Int32) (p1 p2 : Int32) : ∃ a, f_X11_pairs_0 n a36 p1 p2 = some a ∧ f_X12_pairs_44 n o44 p1 p2 = some (a, upd o44 0 0) := by
  unfold f_X11_pairs_0 f_X12_pairs_44
  rw [isByte_is, isW, isIn_w p1 0 255 0 255 rfl rfl]
  simp only [Option.bind_some]
  by_cases c : 0 ≤ p1 ∧ p1 ≤ 255
  · rw [if_pos c, if_neg one_ne, if_neg one_ne]
    by_cases c2 : (-1) ≤ p2
    · rw [if_pos c2, if_pos c2]
      unfold f_X1_pairOf_35
      rcases pairs_out hn h (upd o44 0 0) p1 p2 40 n 0 (by omega) (by omega) with ⟨a, e1, e2⟩ | ⟨a, e1, e2⟩
      · rw [show nI (40 - 40) = (0 : Int32) from rfl] at e1 e2
        rw [e1, e2]
        exact ⟨_, rfl, rfl⟩
      · rw [show nI (40 - 40) = (0 : Int32) from rfl] at e1 e2
        rw [e1, e2]
        simp only [Option.bind_some, Sum.elim_inr]
        by_cases c3 : p2 = -1
        · rw [if_pos c3, if_pos c3]
          exact ⟨_, rfl, rfl⟩
        · rw [if_neg c3, if_neg c3]
          exact ⟨_, rfl, rfl⟩
    · rw [if_neg c2, if_neg c2]
      exact ⟨_, rfl, rfl⟩
  · rw [if_neg c, if_pos rfl, if_pos rfl]
    exact ⟨_, rfl, rfl⟩
