/-! the opening: the checks' shares, and Inv of a new object -/
theorem init_l (n : Nat) (a37 : Nat → Int32) : ∀ (m k : Nat) (a : Nat → Int32), m ≤ 40 → m < k → (∀ j, m ≤ j → j < 40 → a j = nI (pw (39 - j))) → ∃ x y a', l_X1_init_35 n a37 k (nI (pw (40 - m))) (nI m + (-1)) a = some (x, y, a') ∧ ∀ j, j < 40 → a' j = nI (pw (39 - j)) := by
  intro m
  induction m with
  | zero =>
    intro k a _ hk ha
    obtain ⟨k, rfl⟩ : ∃ q, k = q + 1 := ⟨k - 1, by omega⟩
    rw [l_X1_init_35, if_pos (by decide)]
    exact ⟨_, _, a, rfl, fun j hj => ha j (Nat.zero_le _) hj⟩
  | succ m ih =>
    intro k a hm hk ha
    obtain ⟨k, rfl⟩ : ∃ q, k = q + 1 := ⟨k - 1, by omega⟩
    rw [l_X1_init_35, nI_m1, if_neg (nI_pos (by omega)), xin_t (show m < 40 by omega) (by decide), cond_true, timesX_is (pw_lt _), Option.bind_some, nI_clamp (by omega), show tx (pw (40 - (m + 1))) = pw (40 - m) by rw [show 40 - m = 40 - (m + 1) + 1 by omega, pw]]
    refine ih k _ (by omega) (by omega) (fun j hj hj2 => ?_)
    by_cases cj : j = m
    · subst cj
      rw [upd_s, show 40 - (j + 1) = 39 - j by omega]
    · rw [upd_n _ _ cj]
      exact ha j (by omega) hj2
theorem init_is {n : Nat} (hn : 50 ≤ n) : ∃ u : (Int32) × (Int32) × (Nat → Int32), l_X1_init_35 n (fun _ => 0) n 1 39 (fun _ => 0) = some u ∧ ∀ j, j < 40 → u.2.2 j = nI (pw (39 - j)) := by
  obtain ⟨x, y, a', e1, e2⟩ := init_l n (fun _ => 0) 40 n (fun _ => 0) (by omega) (by omega) (fun j hj hj2 => absurd hj (by omega))
  rw [show nI (pw (40 - 40)) = (1 : Int32) from rfl, show nI 40 + (-1) = (39 : Int32) from rfl] at e1
  exact ⟨(x, y, a'), e1, e2⟩
theorem rmod_z : ∀ k, rmod k 0 = 0 := by
  intro k
  induction k with
  | zero => rfl
  | succ k ih => rw [rmod, Nat.zero_div, ih]; rfl
def iT0 (k : Nat) : Nat := ([48, 7, 6, 1, 800, 0, 1] : List Nat).getD k 0
theorem k_k7 {P : Nat → Prop} (h0 : P 0) (h1 : P 1) (h2 : P 2) (h3 : P 3) (h4 : P 4) (h5 : P 5) (h6 : P 6) : ∀ k, k < 7 → P k := by
  intro k hk
  obtain rfl | rfl | rfl | rfl | rfl | rfl | rfl : k = 0 ∨ k = 1 ∨ k = 2 ∨ k = 3 ∨ k = 4 ∨ k = 5 ∨ k = 6 := by omega
  all_goals assumption
theorem inv_0 {u : (Int32) × (Int32) × (Nat → Int32)} (hu : ∀ j, j < 40 → u.2.2 j = nI (pw (39 - j))) : Inv 0 ((xsf 2)) (fun _ => 0) (((fun _ => 0))) (fun _ => 0) 0 (((fun _ => 0))) (((fun _ => 0))) (upd (fun _ => 0) 0 12) ((((fun _ => 0)))) (upd (fun _ => 0) 0 24) ((((fun _ => 0)))) (upd (fun _ => 0) 0 32) ((((fun _ => 0)))) (((fun _ => 0))) (fun _ => 0) (((fun _ => 0))) (fun _ => 0) 0 0 (((fun _ => 0))) (fun _ => 0) ((xsf 2)) (((fun _ => 0))) (fun _ => 0) 0 0 (((fun _ => 0))) (fun _ => 0) ((xsf 2)) (((fun _ => 0))) (fun _ => 0) 0 0 (((fun _ => 0))) (fun _ => 0) 0 ((fun _ => 0)) u.2.2 (((fun _ => 0))) (fun _ => 0) (((fun _ => 0))) (((fun _ => 0))) (((fun _ => 0))) (((fun _ => 0))) (fun _ => 0) (upd (upd (upd (upd (upd (upd (upd ((fun _ => 0)) 0 48) 1 7) 2 6) 3 1) 4 800) 5 0) 6 1) (upd (upd (upd (upd (upd (upd (upd ((fun _ => 0)) 0 4) 1 1) 2 1) 3 0) 4 40) 5 0) 6 1) (upd (upd (upd (upd (upd (upd (upd ((fun _ => 0)) 0 48) 1 15) 2 15) 3 1) 4 4000) 5 1) 6 8) ((fun _ => 0)) ((fun _ => 0)) ((fun _ => 0)) ((fun _ => 0)) ((fun _ => 0)) ((fun _ => 0)) ((fun _ => 0)) ((fun _ => 0)) ((fun _ => 0)) ((fun _ => 0)) ((fun _ => 0)) ((fun _ => 0)) ((fun _ => 0)) := by
  refine ⟨iT0, 0, fun _ => false, 0, 0, fun _ => 0, fun _ _ => 0, fun _ => 0, ?_, ?_, ?_, rfl, ?_, ?_, ?_, ?_, ?_⟩
  · refine ⟨k_k7 ⟨rfl, rfl⟩ ⟨rfl, rfl⟩ ⟨rfl, rfl⟩ ⟨rfl, rfl⟩ ⟨rfl, rfl⟩ ⟨rfl, rfl⟩ ⟨rfl, rfl⟩, by decide, by decide, by decide, by decide, by decide, by decide, by decide⟩
  · exact ⟨rfl, rfl, rfl, rfl, Nat.le_refl _, by decide, fun j hj => absurd hj (Nat.not_lt_zero _)⟩
  · exact ⟨rfl, rfl, by decide, ⟨by decide, rfl, rfl, rfl⟩, fun s hs => absurd hs (Nat.not_lt_zero _)⟩
  · refine ⟨⟨by decide, by decide, by decide, by decide, by decide, by decide, fun _ => rfl, fun _ => rfl, fun _ => ⟨rfl, rfl, rfl⟩⟩, Nat.zero_le _, ⟨by decide, fun _ _ => (show 0 < 256 by decide), fun _ _ _ _ => (show 0 < 256 by decide)⟩, fun _ _ => Nat.zero_le _⟩
  · refine ⟨⟨⟨rfl, rfl, rfl, rfl, rfl, rfl, rfl⟩, fun _ => ⟨rfl, rfl, fun h => absurd h (by decide)⟩, fun h => absurd h (by decide)⟩, fun _ _ => rfl, ⟨by show (0 : Int32) = nI (rmod 40 (0 * 256 + 0)); rw [show 0 * 256 + 0 = 0 from rfl, rmod_z]; rfl, rfl, rfl⟩, rfl, ⟨fun _ => 0, fun _ _ => ⟨(show 0 < 256 by decide), rfl⟩, fun _ => ⟨fun _ _ => rfl, rfl⟩⟩⟩
  · exact ⟨⟨⟨rfl, rfl, rfl⟩, fun s _ h => absurd h (Nat.not_lt_zero _)⟩, ⟨⟨rfl, rfl, rfl⟩, fun s _ _ h => absurd h (Nat.not_lt_zero _)⟩, ⟨⟨rfl, rfl, rfl⟩, fun s _ _ h => absurd h (Nat.not_lt_zero _)⟩⟩
  · exact ⟨rfl, k_k7 ⟨rfl, rfl⟩ ⟨rfl, rfl⟩ ⟨rfl, rfl⟩ ⟨rfl, rfl⟩ ⟨rfl, rfl⟩ ⟨rfl, rfl⟩ ⟨rfl, rfl⟩, hu⟩
  · exact ⟨Or.inl ⟨rfl, fun _ _ => rfl, fun _ _ => rfl⟩, Or.inl fun _ _ => rfl⟩
