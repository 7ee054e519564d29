/-! the model's table of words -/
theorem updL_s (f : Nat → Int64) (k : Nat) (x : Int64) : vp_updL f k x k = x := if_pos rfl
theorem updL_n (f : Nat → Int64) {k j : Nat} (x : Int64) (h : j ≠ k) : vp_updL f k x j = f j := if_neg h
theorem nI_sb {a b : Nat} (h : b ≤ a) : nI a - nI b = nI (a - b) := by
  have := nI_add (a - b) b
  rw [Nat.sub_add_cancel h] at this
  rw [← this, Int32.add_sub_cancel]
theorem lw_34 {n k0 : Nat} (o44 a57 : _) (l1 : Int32) (h : ∀ j, j < 10496 → a57 j = lN (wm k0 (j / 256) (j % 256))) : ∀ (r k : Nat) (a : Nat → Int64), r ≤ 10496 → r < k → (∀ j, j < 10496 - r → a j = lN (wm (k0 + 1) (j / 256) (j % 256))) → ∃ x a', l_X12_laysWays_44_34 n o44 a57 l1 (nI (pw (39 - k0))) k (nI (10496 - r)) a = some (x, a') ∧ ∀ j, j < 10496 → a' j = lN (wm (k0 + 1) (j / 256) (j % 256)) := by
  intro r
  induction r with
  | zero =>
    intro k a _ hk ha
    obtain ⟨k, rfl⟩ : ∃ q, k = q + 1 := ⟨k - 1, by omega⟩
    rw [l_X12_laysWays_44_34, if_pos (by decide)]
    exact ⟨_, a, rfl, ha⟩
  | succ r ih =>
    intro k a hr hk ha
    obtain ⟨k, rfl⟩ : ∃ q, k = q + 1 := ⟨k - 1, by omega⟩
    have c1 : ¬ (10496 : Int32) ≤ nI (10496 - (r + 1)) := nI_ge (a := 10496 - (r + 1)) (b := 10496) (by omega) (by decide)
    have hc : 10496 - (r + 1) < 10496 := by omega
    have hc2 : 10496 - r = 10496 - (r + 1) + 1 := by omega
    rw [l_X12_laysWays_44_34, if_neg c1]
    rw [hc2] at ih
    generalize 10496 - (r + 1) = c at *
    have key : ∀ v : Int64, v = lN (wm (k0 + 1) (c / 256) (c % 256)) → ∀ j, j < c + 1 → vp_updL a c v j = lN (wm (k0 + 1) (j / 256) (j % 256)) := by
      intro v hv j hj
      by_cases cj : j = c
      · subst cj
        rw [updL_s, hv]
      · rw [updL_n _ _ cj]
        exact ha j (by omega)
    rw [xin_t hc (by decide)]
    simp only [cond_true]
    rw [nI_clamp (by omega), nI_1]
    by_cases c2 : 256 ≤ c
    · have hx : c % 256 ^^^ pw (39 - k0) < 256 := xor_lt256 (Nat.mod_lt _ (by decide)) (pw_lt _)
      have e1 : nI c / 256 = nI (c / 256) := pk_div (d := 256) (by omega) (by decide) (by decide)
      have e2 : nI c - nI (c / 256) * 256 = nI (c % 256) := by
        rw [show nI (c / 256) * 256 = nI (c / 256 * 256) from nI_mul _ 256, nI_sb (by omega)]
        congr 1
        omega
      have e3 : (nI (c / 256) - 1) * 256 + nI (c % 256 ^^^ pw (39 - k0)) = nI ((c / 256 - 1) * 256 + (c % 256 ^^^ pw (39 - k0))) := by
        rw [show nI (c / 256) - 1 = nI (c / 256 - 1) from nI_sb (b := 1) (by omega), show nI (c / 256 - 1) * 256 = nI ((c / 256 - 1) * 256) from nI_mul _ 256, nI_add]
      have hb : (c / 256 - 1) * 256 + (c % 256 ^^^ pw (39 - k0)) < 10496 := by omega
      rw [if_pos (show (256 : Int32) ≤ nI c from nI_le (a := 256) c2 (by omega)), e1, e2, nI_xor, e3, xin_t hb (by decide), cond_true, nI_clamp (by omega), h c hc, h _ hb, lN_add]
      refine ih k _ (by omega) (by omega) (key _ ?_)
      congr 1
      rw [show ((c / 256 - 1) * 256 + (c % 256 ^^^ pw (39 - k0))) / 256 = c / 256 - 1 by omega, show ((c / 256 - 1) * 256 + (c % 256 ^^^ pw (39 - k0))) % 256 = c % 256 ^^^ pw (39 - k0) by omega]
      rw [wm, if_neg (by omega)]
    · rw [if_neg (show ¬ (256 : Int32) ≤ nI c from nI_ge (a := c) (b := 256) (by omega) (by decide)), h c hc, Int64.add_zero]
      refine ih k _ (by omega) (by omega) (key _ ?_)
      rw [wm, if_pos (by omega), Nat.add_zero]
theorem lw_97 {n : Nat} (o44 a58 : _) (l1 : Int32) : ∀ (r k : Nat) (a : Nat → Int64), r ≤ 10496 → r < k → (∀ j, j < 10496 - r → a j = a58 j) → ∃ x a', l_X12_laysWays_44_97 n o44 a58 l1 k (nI (10496 - r)) a = some (x, a') ∧ ∀ j, j < 10496 → a' j = a58 j := by
  intro r
  induction r with
  | zero =>
    intro k a _ hk ha
    obtain ⟨k, rfl⟩ : ∃ q, k = q + 1 := ⟨k - 1, by omega⟩
    rw [l_X12_laysWays_44_97, if_pos (by decide)]
    exact ⟨_, a, rfl, ha⟩
  | succ r ih =>
    intro k a hr hk ha
    obtain ⟨k, rfl⟩ : ∃ q, k = q + 1 := ⟨k - 1, by omega⟩
    have c1 : ¬ (10496 : Int32) ≤ nI (10496 - (r + 1)) := nI_ge (a := 10496 - (r + 1)) (b := 10496) (by omega) (by decide)
    rw [l_X12_laysWays_44_97, if_neg c1, xin_t (show 10496 - (r + 1) < 10496 by omega) (by decide)]
    simp only [cond_true]
    rw [nI_clamp (by omega), nI_1, show 10496 - (r + 1) + 1 = 10496 - r by omega]
    refine ih k _ (by omega) (by omega) ?_
    intro j hj
    by_cases cj : j = 10496 - (r + 1)
    · subst cj
      rw [updL_s]
    · rw [updL_n _ _ cj]
      exact ha j (by omega)
theorem lw_21 {n : Nat} (hn : 20000 ≤ n) (o44 : Nat → Int32) : ∀ (r k : Nat) (a b : Nat → Int64), r ≤ 40 → r < k → (∀ j, j < 10496 → a j = lN (wm (40 - r) (j / 256) (j % 256))) → ∃ x a' b', l_X12_laysWays_44_21 n o44 k (nI (40 - r)) a b = some (x, a', b') ∧ ∀ j, j < 10496 → a' j = lN (wm 40 (j / 256) (j % 256)) := by
  intro r
  induction r with
  | zero =>
    intro k a b _ hk ha
    obtain ⟨k, rfl⟩ : ∃ q, k = q + 1 := ⟨k - 1, by omega⟩
    rw [l_X12_laysWays_44_21, if_pos (by decide)]
    exact ⟨_, a, b, rfl, ha⟩
  | succ r ih =>
    intro k a b hr hk ha
    obtain ⟨k, rfl⟩ : ∃ q, k = q + 1 := ⟨k - 1, by omega⟩
    have c1 : ¬ (40 : Int32) ≤ nI (40 - (r + 1)) := nI_ge (a := 40 - (r + 1)) (b := 40) (by omega) (by decide)
    have hc : 40 - (r + 1) < 40 := by omega
    have hc2 : 40 - r = 40 - (r + 1) + 1 := by omega
    rw [l_X12_laysWays_44_21, if_neg c1]
    rw [hc2] at ih
    generalize 40 - (r + 1) = c at *
    rw [markOf_is (by omega) hc, Option.bind_some]
    obtain ⟨x1, b1, e1, g1⟩ := lw_34 (n := n) o44 a (nI c) ha 10496 n b (by omega) (by omega) (fun j hj => absurd hj (by omega))
    rw [show nI (10496 - 10496) = (0 : Int32) from rfl] at e1
    rw [e1, Option.bind_some]
    obtain ⟨x2, a2, e2, g2⟩ := lw_97 (n := n) o44 b1 (nI c) 10496 n a (by omega) (by omega) (fun j hj => absurd hj (by omega))
    rw [show nI (10496 - 10496) = (0 : Int32) from rfl] at e2
    simp only []
    rw [e2, Option.bind_some, nI_1]
    exact ih k a2 b1 (by omega) (by omega) (fun j hj => (g2 j hj).trans (g1 j hj))
def iM (a57 : Nat → Int64) : Prop := ∀ j, j < 10496 → a57 j = lN (wm 40 (j / 256) (j % 256))
theorem lw_is {n : Nat} (hn : 20000 ≤ n) (o44 : Nat → Int32) {a57 : Nat → Int64} (a58 : Nat → Int64) (h : (∀ j, j < 10496 → a57 j = 0) ∨ iM a57) : ∃ a b, f_X12_laysWays_44 n o44 a57 a58 = some (a, b) ∧ iM a := by
  unfold f_X12_laysWays_44
  rcases h with h | h
  · rw [if_neg (by rw [h 0 (by decide)]; decide)]
    obtain ⟨x, a', b', e1, e2⟩ := lw_21 hn o44 40 n (vp_updL a57 0 1) a58 (by omega) (by omega) (fun j hj => by
      rw [Nat.sub_self, wm]
      by_cases c : j = 0
      · subst c
        rw [updL_s]
        rfl
      · rw [updL_n _ _ c, h j hj, if_neg (by omega)]
        rfl)
    rw [show nI (40 - 40) = (0 : Int32) from rfl] at e1
    rw [e1]
    exact ⟨a', b', rfl, e2⟩
  · rw [if_pos (by rw [h 0 (by decide), show 0 / 256 = 0 from rfl, show 0 % 256 = 0 from rfl, wm_0]; decide)]
    exact ⟨_, _, rfl, h⟩
theorem iM_at {a57 : Nat → Int64} (h : iM a57) {w s : Nat} (hw : w < 41) (hs : s < 256) : a57 (256 * w + s) = lN (wm 40 w s) := by
  rw [h _ (by omega), show (256 * w + s) / 256 = w by omega, show (256 * w + s) % 256 = s by omega]
