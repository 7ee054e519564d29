/-! words and cases -/
def iU (o38 : Nat → Int32) (a39 : Nat → Int64) (a41 : Nat → Int32) (a57 : Nat → Int64) : Prop := iV o38 a39 a41 ∧ ((∀ j, j < 10496 → a57 j = 0) ∨ iM a57)
theorem k_words {n : Nat} (hn : 20000 ≤ n) {o38 : Nat → Int32} {a39 : Nat → Int64} {a41 : Nat → Int32} {a57 : Nat → Int64} (h : iU o38 a39 a41 a57) (o44 : Nat → Int32) (a40 a58 : Nat → Int64) (p1 : Int32) : ∃ a o x y z b c, f_X11_words_0 n o38 a39 a40 a41 p1 = some (a, o, x, y, z) ∧ f_X12_words_44 n o44 a57 a58 p1 = some (a, upd o44 0 0, b, c) ∧ iU o x z b := by
  unfold f_X11_words_0 f_X12_words_44
  rw [isW, isIn_w p1 0 40 0 40 rfl rfl]
  simp only [Option.bind_some]
  by_cases c : 0 ≤ p1 ∧ p1 ≤ 40
  · rw [if_pos c, if_neg one_ne, if_neg one_ne]
    obtain ⟨p, -, hp, rfl⟩ := i32_in (a := 0) (b := 40) (by decide) c (by decide)
    obtain ⟨o, x, y, z, e1, e2⟩ := wo_p (n := n) (p := p) (by omega) a40 h.1 (by omega)
    obtain ⟨b, b2, e3, e4⟩ := lw_is hn (upd o44 0 0) a58 h.2
    have e5 : (256 : Int32) * nI p = nI (256 * p) := nI_mul 256 p
    have e6 := iM_at e4 (w := p) (s := 0) (by omega) (by decide)
    rw [Nat.add_zero] at e6
    rw [e1, e3]
    simp only [Option.bind_some]
    rw [e5, xin_t (show 256 * p < 10496 by omega) (by decide), cond_true, nI_clamp (by omega), e6]
    exact ⟨_, _, _, _, _, _, _, rfl, rfl, e2, Or.inr e4⟩
  · rw [if_neg c, if_pos rfl, if_pos rfl]
    exact ⟨_, _, _, _, _, _, _, rfl, rfl, h⟩
def bnm : Nat → Nat
  | 0 => 1
  | j + 1 => bnm j * (40 - j) / (j + 1)
theorem bnm_b : ∀ j, j < 41 → 0 < bnm j ∧ bnm j < 2 ^ 38 := by decide +kernel
theorem bnm_s {j : Nat} (hj : j < 40) : lN (bnm j) * Int32.toInt64 (nI (40 - j)) / Int32.toInt64 (nI (j + 1)) = lN (bnm (j + 1)) := by
  have h := (bnm_b j (by omega)).2
  have h2 : bnm j * (40 - j) < 2 ^ 38 * 41 := Nat.mul_lt_mul'' h (by omega)
  rw [nI_l (by omega), nI_l (by omega), lN_mul, pk_lDiv (by omega) (by omega) (by omega), bnm]
theorem xnzl_t {j : Nat} (h0 : 0 < j) (h : j < 2 ^ 31) : xnzl (Int32.toInt64 (nI j)) = true := by
  have : Int32.toInt64 (nI j) ≠ 0 := by
    rw [nI_l h]
    exact fun e => absurd ((lN_eq (b := 0) h (by decide)).mp e) (by omega)
  simpa [xnzl] using this
theorem ro_l {n p : Nat} (hp : p ≤ 40) : ∀ (r k : Nat), r ≤ p → r < k → ∃ y, l_X9_rowsOf_4 n (nI p) k (lN (bnm (p - r))) (nI (p - r)) = some (lN (bnm p), y) := by
  intro r
  induction r with
  | zero =>
    intro k _ hk
    obtain ⟨k, rfl⟩ : ∃ q, k = q + 1 := ⟨k - 1, by omega⟩
    rw [l_X9_rowsOf_4, Nat.sub_zero, if_pos (nI_le (Nat.le_refl _) (by omega))]
    exact ⟨_, rfl⟩
  | succ r ih =>
    intro k hr hk
    obtain ⟨k, rfl⟩ : ∃ q, k = q + 1 := ⟨k - 1, by omega⟩
    have hc : p - (r + 1) < p := by omega
    have hc2 : p - r = p - (r + 1) + 1 := by omega
    rw [l_X9_rowsOf_4]
    rw [hc2] at ih
    generalize p - (r + 1) = c at *
    rw [if_neg (nI_ge hc (by omega)), nI_1, show (40 : Int32) - nI c = nI (40 - c) from nI_sb (a := 40) (by omega), xnzl_t (by omega) (by omega), cond_true, bnm_s (by omega)]
    exact ih k (by omega) (by omega)
theorem ch_l {n p : Nat} (hp : p ≤ 40) : ∀ (r k : Nat), r ≤ p → r < k → ∃ y, l_X12_chosen_4 n (nI p) k (lN (bnm (p - r))) (nI (p - r + 1)) = some (lN (bnm p), y) := by
  intro r
  induction r with
  | zero =>
    intro k _ hk
    obtain ⟨k, rfl⟩ : ∃ q, k = q + 1 := ⟨k - 1, by omega⟩
    rw [l_X12_chosen_4, Nat.sub_zero, if_pos (nI_lt (by omega) (by omega))]
    exact ⟨_, rfl⟩
  | succ r ih =>
    intro k hr hk
    obtain ⟨k, rfl⟩ : ∃ q, k = q + 1 := ⟨k - 1, by omega⟩
    have hc : p - (r + 1) < p := by omega
    have hc2 : p - r = p - (r + 1) + 1 := by omega
    rw [l_X12_chosen_4]
    rw [hc2] at ih
    generalize p - (r + 1) = c at *
    rw [if_neg (nI_nlt (by omega) (by omega)), nI_1, show (41 : Int32) - nI (c + 1) = nI (40 - c) from (nI_sb (a := 41) (b := c + 1) (by omega)).trans (by congr 1; omega), xnzl_t (by omega) (by omega), cond_true, bnm_s (by omega)]
    exact ih k (by omega) (by omega)
theorem ro_is {n p : Nat} (hn : 50 ≤ n) (hp : p ≤ 40) : f_X9_rowsOf n (nI p) = some (lN (bnm p)) := by
  unfold f_X9_rowsOf
  obtain ⟨y, e⟩ := ro_l (n := n) hp p n (Nat.le_refl _) (by omega)
  rw [Nat.sub_self, show lN (bnm 0) = (1 : Int64) from rfl, show nI 0 = (0 : Int32) from rfl] at e
  rw [e]
  rfl
theorem ch_is {n p : Nat} (hn : 50 ≤ n) (hp : p ≤ 40) : f_X12_chosen n (nI p) = some (lN (bnm p)) := by
  unfold f_X12_chosen
  obtain ⟨y, e⟩ := ch_l (n := n) hp p n (Nat.le_refl _) (by omega)
  rw [Nat.sub_self, show lN (bnm 0) = (1 : Int64) from rfl, show nI (0 + 1) = (1 : Int32) from rfl] at e
  rw [e]
  rfl
theorem cs_l {n p : Nat} (hn : 50 ≤ n) (hp : p ≤ 40) (o44 : Nat → Int32) {a57 : Nat → Int64} (a58 : Nat → Int64) (h : iM a57) (l2 : Int32) : ∀ (r k : Nat), r ≤ 40 → r < k → ∃ y, l_X12_cases_44_46 n o44 a57 a58 (nI p) l2 k (lN (ws 40 p 0 (40 - r))) (nI (40 - r)) = some (lN (ws 40 p 0 40), y) := by
  intro r
  induction r with
  | zero =>
    intro k _ hk
    obtain ⟨k, rfl⟩ : ∃ q, k = q + 1 := ⟨k - 1, by omega⟩
    rw [l_X12_cases_44_46, if_pos (by decide)]
    exact ⟨_, rfl⟩
  | succ r ih =>
    intro k hr hk
    obtain ⟨k, rfl⟩ : ∃ q, k = q + 1 := ⟨k - 1, by omega⟩
    have c1 : ¬ (40 : Int32) ≤ nI (40 - (r + 1)) := nI_ge (a := 40 - (r + 1)) (b := 40) (by omega) (by decide)
    have hc : 40 - (r + 1) < 40 := by omega
    have hc2 : 40 - r = 40 - (r + 1) + 1 := by omega
    rw [l_X12_cases_44_46, if_neg c1]
    rw [hc2] at ih
    generalize 40 - (r + 1) = c at *
    have hp2 := pw_lt (39 - c)
    have e1 : (256 : Int32) * nI p + nI (pw (39 - c)) = nI (256 * p + pw (39 - c)) := by rw [show (256 : Int32) = nI 256 from rfl, nI_mul, nI_add]
    rw [markOf_is (by omega) hc, Option.bind_some, e1, xin_t (show 256 * p + pw (39 - c) < 10496 by omega) (by decide), cond_true, nI_clamp (by omega), iM_at h (by omega) hp2, lN_add, nI_1]
    have e2 : ws 40 p 0 c + wm 40 p (pw (39 - c)) = ws 40 p 0 (c + 1) := by rw [ws, Nat.zero_xor]
    rw [e2]
    exact ih k (by omega) (by omega)
theorem off_is {n p : Nat} (hn : 300 ≤ n) (hp : p ≤ 40) {o38 : Nat → Int32} {a39 : Nat → Int64} (a40 : Nat → Int64) {a41 : Nat → Int32} (h : iV o38 a39 a41) : ∃ o x y z, f_X9_oneBitOff_38 n o38 a39 a40 a41 (nI p) = some (lN (ws 40 p 0 40), o, x, y, z) ∧ iV o x z := by
  unfold f_X9_oneBitOff_38
  rw [nI_1, show (41 : Int32) - nI p = nI (41 - p) from nI_sb (a := 41) (by omega), nI_l (show 41 - p < 2 ^ 31 by omega), nI_l (show p + 1 < 2 ^ 31 by omega)]
  cases p with
  | zero =>
    obtain ⟨o, x, y, z, e1, e2⟩ := wo_n hn a40 h
    rw [show nI 0 - 1 = (-1 : Int32) from rfl, e1]
    simp only [Option.bind_some]
    obtain ⟨o', x', y', z', e3, e4⟩ := wo_p (n := n) (p := 0 + 1) hn y e2 (by omega)
    rw [e3]
    simp only [Option.bind_some]
    refine ⟨o', x', y', z', ?_, e4⟩
    rw [(ws_is 40).1 0, show (0 : Int64) = lN 0 from rfl, lN_mul, lN_mul, lN_add, Nat.mul_zero, Nat.zero_add, Nat.zero_add, Nat.one_mul]
  | succ p =>
    obtain ⟨o, x, y, z, e1, e2⟩ := wo_p (n := n) (p := p) hn a40 h (by omega)
    rw [show nI (p + 1) - 1 = nI p from nI_sb (a := p + 1) (b := 1) (by omega), e1]
    simp only [Option.bind_some]
    obtain ⟨o', x', y', z', e3, e4⟩ := wo_p (n := n) (p := p + 1 + 1) hn y e2 (by omega)
    rw [e3]
    simp only [Option.bind_some]
    refine ⟨o', x', y', z', ?_, e4⟩
    have e5 := (ws_is 40).2 p 0
    rw [show ((40 : Nat) : Int) - (p : Int) = ((40 - p : Nat) : Int) by omega, show (p : Int) + 2 = ((p + 2 : Nat) : Int) by omega, ← Int.natCast_mul, ← Int.natCast_mul, ← Int.natCast_add] at e5
    have e6 := Int.ofNat.inj e5
    rw [e6, lN_mul, lN_mul, lN_add, show 41 - (p + 1) = 40 - p by omega]
theorem k_cases {n : Nat} (hn : 20000 ≤ n) {o38 : Nat → Int32} {a39 : Nat → Int64} {a41 : Nat → Int32} {a57 : Nat → Int64} (h : iU o38 a39 a41 a57) (o44 : Nat → Int32) (a40 a58 : Nat → Int64) (p1 p2 : Int32) : ∃ a o x y z b c, f_X11_cases_0 n o38 a39 a40 a41 p1 p2 = some (a, o, x, y, z) ∧ f_X12_cases_44 n o44 a57 a58 p1 p2 = some (a, upd o44 0 0, b, c) ∧ iU o x z b := by
  unfold f_X11_cases_0 f_X12_cases_44
  rw [isW, isW, isIn_w p1 0 40 0 40 rfl rfl, isIn_w p2 0 2 0 2 rfl rfl]
  simp only [Option.bind_some]
  by_cases c0 : 0 ≤ p2 ∧ p2 ≤ 2
  · rw [if_pos c0, if_neg one_ne, if_neg one_ne]
    by_cases c : 0 ≤ p1 ∧ p1 ≤ 40
    · rw [if_pos c, if_neg one_ne, if_neg one_ne]
      obtain ⟨p, -, hp, rfl⟩ := i32_in (a := 0) (b := 40) (by decide) c (by decide)
      obtain ⟨q, -, hq, rfl⟩ := i32_in (a := 0) (b := 2) (by decide) c0 (by decide)
      obtain ⟨o, x, y, z, e1, e2⟩ := wo_p (n := n) (p := p) (by omega) a40 h.1 (by omega)
      obtain ⟨o', x', y', z', e7, e8⟩ := off_is (n := n) (p := p) (by omega) hp y e2
      obtain ⟨b, b2, e3, e4⟩ := lw_is hn (upd o44 0 0) a58 h.2
      obtain ⟨w, e9⟩ := cs_l (n := n) (by omega) hp (upd o44 0 0) b2 e4 (nI q) 40 n (by omega) (by omega)
      rw [show nI (40 - 40) = (0 : Int32) from rfl, show lN (ws 40 p 0 (40 - 40)) = (0 : Int64) from rfl] at e9
      have e5 : (256 : Int32) * nI p = nI (256 * p) := nI_mul 256 p
      have e6 := iM_at e4 (w := p) (s := 0) (by omega) (by decide)
      rw [Nat.add_zero] at e6
      rw [e1, e3]
      simp only [Option.bind_some]
      rw [e7, e9]
      simp only [Option.bind_some]
      rw [e5, xin_t (show 256 * p < 10496 by omega) (by decide), cond_true, nI_clamp (by omega), e6, ro_is (by omega) hp, ch_is (by omega) hp]
      simp only [Option.bind_some]
      obtain rfl | rfl | rfl : q = 0 ∨ q = 1 ∨ q = 2 := by omega
      · rw [if_neg (show ¬ nI 0 = 2 by decide), if_pos (show nI 0 = 0 from rfl), if_pos (show nI 0 = 0 from rfl)]
        exact ⟨_, _, _, _, _, _, _, rfl, rfl, e8, Or.inr e4⟩
      · rw [if_neg (show ¬ nI 1 = 2 by decide), if_neg (show ¬ nI 1 = 0 by decide), if_neg (show ¬ nI 1 = 0 by decide), if_pos (show nI 1 = 1 from rfl)]
        exact ⟨_, _, _, _, _, _, _, rfl, rfl, e8, Or.inr e4⟩
      · rw [if_pos (show nI 2 = 2 from rfl), if_neg (show ¬ nI 2 = 0 by decide), if_neg (show ¬ nI 2 = 1 by decide)]
        exact ⟨_, _, _, _, _, _, _, rfl, rfl, e8, Or.inr e4⟩
    · rw [if_neg c, if_pos rfl, if_pos rfl]
      exact ⟨_, _, _, _, _, _, _, rfl, rfl, h⟩
  · rw [if_neg c0, if_pos rfl, if_pos rfl]
    exact ⟨_, _, _, _, _, _, _, rfl, rfl, h⟩
