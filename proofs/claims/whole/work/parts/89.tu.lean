/-! the fewest bits that make a syndrome -/
theorem nI_mul (a b : Nat) : nI a * nI b = nI (a * b) := (Int32.ofNat_mul a b).symm
theorem upd_s (f : Nat → Int32) (k : Nat) (x : Int32) : upd f k x k = x := if_pos rfl
theorem upd_n (f : Nat → Int32) {k j : Nat} (x : Int32) (h : j ≠ k) : upd f k x j = f j := if_neg h
def chD : Nat → Nat → Nat → Bool
  | _, 0, s => s == 0
  | 0, _ + 1, _ => false
  | q + 1, m + 1, s => chD q m (s ^^^ pw q) || chD q (m + 1) s
def chF : Nat → Nat → Nat
  | 0, s => if s = 0 then 0 else 64
  | q + 1, s => if chF q s ≤ 1 + chF q (s ^^^ pw q) then chF q s else 1 + chF q (s ^^^ pw q)
def chR : Nat → Nat → Nat → Nat → Nat
  | _, 0, _, _ => 0
  | 0, _ + 1, _, _ => 0
  | q + 1, m + 1, s, 0 => if chD q m (s ^^^ pw q) then 39 - q else chR q (m + 1) s 0
  | q + 1, m + 1, s, i + 1 => if chD q m (s ^^^ pw q) then chR q m (s ^^^ pw q) i else chR q (m + 1) s (i + 1)
theorem chD_0 (q s : Nat) : chD q 0 s = (s == 0) := by cases q <;> rfl
theorem chD_s (q m s : Nat) : chD (q + 1) (m + 1) s = (chD q m (s ^^^ pw q) || chD q (m + 1) s) := rfl
theorem chD_up {q m s : Nat} (h : chD q m s = true) : chD (q + 1) m s = true := by
  cases m with
  | zero => rw [chD_0] at *; exact h
  | succ m => rw [chD_s, h, Bool.or_true]
theorem chF_64 (q s : Nat) : chF q s ≤ 64 := by
  induction q with
  | zero => rw [chF]; split <;> decide
  | succ q ih => rw [chF]; split <;> omega
theorem chD_F : ∀ (q m s : Nat), chD q m s = true → chF q s ≤ m := by
  intro q
  induction q with
  | zero =>
    intro m s h
    cases m with
    | zero =>
      rw [chD_0, beq_iff_eq] at h
      subst h
      exact Nat.le_refl _
    | succ m => exact absurd h (by simp [chD])
  | succ q ih =>
    intro m s h
    cases m with
    | zero =>
      rw [chD_0, ← chD_0 q] at h
      have := ih 0 s h
      rw [chF]
      split <;> omega
    | succ m =>
      rw [chD_s, Bool.or_eq_true] at h
      rw [chF]
      rcases h with h | h
      · have := ih m _ h
        split <;> omega
      · have := ih (m + 1) _ h
        split <;> omega
theorem chF_D : ∀ (q s : Nat), chF q s < 64 → chD q (chF q s) s = true := by
  intro q
  induction q with
  | zero =>
    intro s h
    rw [chF] at *
    by_cases c : s = 0
    · subst c; rfl
    · rw [if_neg c] at h; omega
  | succ q ih =>
    intro s h
    rw [chF] at *
    by_cases c : chF q s ≤ 1 + chF q (s ^^^ pw q)
    · rw [if_pos c] at *
      exact chD_up (ih s h)
    · rw [if_neg c] at *
      rw [Nat.add_comm 1 (chF q (s ^^^ pw q)), chD_s, ih _ (by omega), Bool.true_or]
theorem chF_9 : ∀ s, s < 256 → chF 9 s ≤ 7 := by decide +kernel
theorem chF_7 {s : Nat} (hs : s < 256) : ∀ q, chF (9 + q) s ≤ 7 := by
  intro q
  induction q with
  | zero => exact chF_9 s hs
  | succ q ih =>
    rw [show 9 + (q + 1) = (9 + q) + 1 by omega, chF]
    split <;> omega
theorem chF_z (q : Nat) : chF q 0 = 0 := Nat.le_zero.mp (chD_F q 0 0 (by rw [chD_0]; rfl))
theorem chF_eq0 {q s : Nat} (h : chF q s = 0) : s = 0 := by
  have := chF_D q s (by omega)
  rw [h, chD_0, beq_iff_eq] at this
  exact this
/-- the class's search -/
def chP (n : Nat) (a36 : Nat → Int32) (kk m : Nat) : Prop := ∀ (q s d : Nat) (a37 : Nat → Int32), q ≤ 40 → s < 256 → d + m ≤ 8 → ∃ a', f_X1_canChoose_36_37 n kk a36 a37 (nI s) (nI (40 - q)) (nI (d + m)) (nI d) = some (if chD q m s = true then 1 else 0, a') ∧ (∀ j, j < d → a' j = a37 j) ∧ (chD q m s = true → ∀ i, i < m → a' (d + i) = nI (chR q m s i))
theorem can_l {n : Nat} {a36 : Nat → Int32} (h : ∀ j, j < 40 → a36 j = nI (pw (39 - j))) {kk m : Nat} (ih : chP n a36 kk m) {s d : Nat} (hs : s < 256) (hd : d + (m + 1) ≤ 8) : ∀ (q k : Nat) (a37 : Nat → Int32), q ≤ 40 → q < k → ∃ a', ((chD q (m + 1) s = true ∧ l_X1_canChoose_36_37_36 n (f_X1_canChoose_36_37 n kk) a36 (nI s) (nI (d + (m + 1))) (nI d) k (nI (40 - q)) a37 = some (Sum.inl (1, a')) ∧ ∀ i, i < m + 1 → a' (d + i) = nI (chR q (m + 1) s i)) ∨ (chD q (m + 1) s = false ∧ ∃ x, l_X1_canChoose_36_37_36 n (f_X1_canChoose_36_37 n kk) a36 (nI s) (nI (d + (m + 1))) (nI d) k (nI (40 - q)) a37 = some (Sum.inr (x, a')))) ∧ ∀ j, j < d → a' j = a37 j := by
  intro q
  induction q with
  | zero =>
    intro k a37 _ hk
    obtain ⟨k, rfl⟩ : ∃ q, k = q + 1 := ⟨k - 1, by omega⟩
    have c1 : (40 : Int32) ≤ nI (40 - 0) := by decide
    rw [l_X1_canChoose_36_37_36, if_pos c1]
    exact ⟨a37, Or.inr ⟨rfl, _, rfl⟩, fun _ _ => rfl⟩
  | succ q ih2 =>
    intro k a37 hq hk
    obtain ⟨k, rfl⟩ : ∃ q, k = q + 1 := ⟨k - 1, by omega⟩
    have c1 : ¬ (40 : Int32) ≤ nI (40 - (q + 1)) := nI_ge (a := 40 - (q + 1)) (b := 40) (by omega) (by decide)
    rw [l_X1_canChoose_36_37_36, if_neg c1, xin_t (show d < 8 by omega) (by decide), cond_true, xin_t (show 40 - (q + 1) < 40 by omega) (by decide), cond_true, nI_clamp (show d < 2 ^ 31 by omega), nI_clamp (show 40 - (q + 1) < 2 ^ 31 by omega), h (40 - (q + 1)) (by omega), nI_xor, nI_1, nI_1, show 39 - (40 - (q + 1)) = q by omega, show 40 - (q + 1) + 1 = 40 - q by omega, show d + (m + 1) = (d + 1) + m by omega]
    obtain ⟨a', e1, e2, e3⟩ := ih q (s ^^^ pw q) (d + 1) (upd a37 d (nI (40 - (q + 1)))) (by omega) (xor_lt256 hs (pw_lt q)) (by omega)
    rw [e1, Option.bind_some]
    by_cases c2 : chD q m (s ^^^ pw q) = true
    · simp only [c2, if_true]
      rw [if_neg one_ne]
      refine ⟨a', Or.inl ⟨by rw [chD_s, c2, Bool.true_or], rfl, ?_⟩, ?_⟩
      · intro i hi
        cases i with
        | zero =>
          rw [chR, if_pos c2, Nat.add_zero, e2 d (by omega), upd_s]
          congr 1
          omega
        | succ i =>
          rw [chR, if_pos c2, ← e3 c2 i (by omega)]
          congr 1
          omega
      · intro j hj
        rw [e2 j (by omega), upd_n _ _ (by omega)]
    · have c3 : chD q m (s ^^^ pw q) = false := by simpa using c2
      rw [if_neg c2]
      simp only [if_true]
      obtain ⟨a2, h1, h2⟩ := ih2 k a' (by omega) (by omega)
      rw [show d + (m + 1) = (d + 1) + m by omega] at h1
      refine ⟨a2, ?_, fun j hj => by rw [h2 j hj, e2 j (by omega), upd_n _ _ (by omega)]⟩
      rcases h1 with ⟨g1, g2, g3⟩ | ⟨g1, x, g2⟩
      · refine Or.inl ⟨by rw [chD_s, g1, Bool.or_true], g2, ?_⟩
        intro i hi
        rw [g3 i hi]
        cases i with
        | zero => rw [chR, if_neg c2]
        | succ i => rw [chR, if_neg c2]
      · exact Or.inr ⟨by rw [chD_s, g1, c3]; rfl, x, g2⟩
theorem mx0 {a : Nat} (h : a < 2 ^ 31) : (if (0 : Int32) < nI a then nI a else 0) = nI a := by
  by_cases c : a = 0
  · subst c
    split <;> rfl
  · rw [if_pos (show (0 : Int32) < nI a from nI_lt (a := 0) (by omega) h)]
theorem can_is {n : Nat} (hn : 50 ≤ n) {a36 : Nat → Int32} (h : ∀ j, j < 40 → a36 j = nI (pw (39 - j))) : ∀ (m kk : Nat), m < kk → chP n a36 kk m := by
  intro m
  induction m with
  | zero =>
    intro kk hk q s d a37 hq hs hd
    obtain ⟨kk, rfl⟩ : ∃ q, kk = q + 1 := ⟨kk - 1, by omega⟩
    have c1 : nI (d + 0) ≤ nI d := nI_le (Nat.le_refl _) (by omega)
    rw [f_X1_canChoose_36_37, if_neg (show ¬ nI d < 0 from nI_pos (by omega)), if_pos c1, chD_0]
    unfold b_X1_canChoose_36_37_19
    by_cases c2 : s = 0
    · subst c2
      rw [if_pos (show nI 0 = 0 from rfl)]
      exact ⟨a37, rfl, fun _ _ => rfl, fun _ i hi => absurd hi (Nat.not_lt_zero _)⟩
    · rw [if_neg (fun e => c2 ((nI_eq0 (by omega)).mp e)), if_neg (by simpa using c2)]
      exact ⟨a37, rfl, fun _ _ => rfl, fun _ i hi => absurd hi (Nat.not_lt_zero _)⟩
  | succ m ih =>
    intro kk hk q s d a37 hq hs hd
    obtain ⟨kk, rfl⟩ : ∃ q, kk = q + 1 := ⟨kk - 1, by omega⟩
    have c1 : ¬ nI (d + (m + 1)) ≤ nI d := nI_ge (by omega) (by omega)
    have c2 : nI d < 8 := nI_lt (b := 8) (by omega) (by decide)
    rw [f_X1_canChoose_36_37, if_neg (show ¬ nI d < 0 from nI_pos (by omega)), if_neg c1, if_pos c2, mx0 (a := 40 - q) (by omega)]
    obtain ⟨a', h1, h2⟩ := can_l h (ih kk (by omega)) hs hd q n a37 hq (by omega)
    rcases h1 with ⟨g1, g2, g3⟩ | ⟨g1, x, g2⟩
    · rw [g2, if_pos g1]
      exact ⟨a', rfl, h2, fun _ => g3⟩
    · rw [g2, if_neg (by rw [g1]; decide)]
      exact ⟨a', rfl, h2, fun e => absurd e (by rw [g1]; decide)⟩
theorem few_l {n : Nat} (hn : 50 ≤ n) {a36 : Nat → Int32} (h : ∀ j, j < 40 → a36 j = nI (pw (39 - j))) {s : Nat} (hs : s < 256) {m : Nat} (h7 : m ≤ 7) (hD : chD 40 m s = true) (hN : ∀ c, c < m → ¬ chD 40 c s = true) : ∀ (r k c : Nat) (a37 : Nat → Int32), c + r = m → r < k → ∃ a', l_X1_fewestFor_35_2 n a36 (nI s) k (nI c) a37 = some (nI m, a') ∧ ∀ i, i < m → a' i = nI (chR 40 m s i) := by
  intro r
  induction r with
  | zero =>
    intro k c a37 hc hk
    obtain ⟨k, rfl⟩ : ∃ q, k = q + 1 := ⟨k - 1, by omega⟩
    rw [Nat.add_zero] at hc
    subst hc
    have c1 : ¬ (8 : Int32) ≤ nI c := nI_ge (a := c) (b := 8) (by omega) (by decide)
    obtain ⟨a', e1, -, e3⟩ := can_is hn h c 12 (by omega) 40 s 0 a37 (by omega) hs (by omega)
    rw [show nI (40 - 40) = (0 : Int32) from rfl, Nat.zero_add, if_pos hD] at e1
    rw [l_X1_fewestFor_35_2, if_neg c1, e1, Option.bind_some]
    refine ⟨a', if_neg one_ne, fun i hi => ?_⟩
    have := e3 hD i hi
    rw [Nat.zero_add] at this
    exact this
  | succ r ih =>
    intro k c a37 hc hk
    obtain ⟨k, rfl⟩ : ∃ q, k = q + 1 := ⟨k - 1, by omega⟩
    have c1 : ¬ (8 : Int32) ≤ nI c := nI_ge (a := c) (b := 8) (by omega) (by decide)
    obtain ⟨a', e1, -, -⟩ := can_is hn h c 12 (by omega) 40 s 0 a37 (by omega) hs (by omega)
    rw [show nI (40 - 40) = (0 : Int32) from rfl, Nat.zero_add, if_neg (hN c (by omega))] at e1
    rw [l_X1_fewestFor_35_2, if_neg c1, e1, Option.bind_some, if_pos rfl, nI_1]
    exact ih k (c + 1) a' (by omega) (by omega)
theorem ch_m {s : Nat} (hs : s < 256) : ∃ m, m ≤ 7 ∧ chD 40 m s = true ∧ (∀ c, c < m → ¬ chD 40 c s = true) ∧ chF 40 s = m := by
  obtain ⟨m, hm⟩ : ∃ m, m = chF 40 s := ⟨_, rfl⟩
  have h7 : m ≤ 7 := by rw [hm]; exact chF_7 hs 31
  have h8 : chD 40 m s = true := by rw [hm]; exact chF_D 40 s (by rw [← hm]; omega)
  refine ⟨m, h7, h8, fun c hc e => ?_, hm.symm⟩
  have := chD_F 40 c s e
  rw [← hm] at this
  omega
/-- the model's table -/
theorem lf_2 {n : Nat} (o44 : Nat → Int32) : ∀ (r k : Nat) (a : Nat → Int32), r ≤ 256 → r < k → (∀ j, j < 256 - r → a (10240 + j) = nI (chF 0 j)) → ∃ x a', l_X12_laysFewest_44_2 n o44 k (nI (256 - r)) a = some (x, a') ∧ ∀ j, j < 256 → a' (10240 + j) = nI (chF 0 j) := by
  intro r
  induction r with
  | zero =>
    intro k a _ hk ha
    obtain ⟨k, rfl⟩ : ∃ q, k = q + 1 := ⟨k - 1, by omega⟩
    rw [l_X12_laysFewest_44_2, if_pos (by decide)]
    exact ⟨_, a, rfl, ha⟩
  | succ r ih =>
    intro k a hr hk ha
    obtain ⟨k, rfl⟩ : ∃ q, k = q + 1 := ⟨k - 1, by omega⟩
    have c1 : ¬ (256 : Int32) ≤ nI (256 - (r + 1)) := nI_ge (a := 256 - (r + 1)) (b := 256) (by omega) (by decide)
    have e1 : (10240 : Int32) + nI (256 - (r + 1)) = nI (10240 + (256 - (r + 1))) := nI_add 10240 _
    rw [l_X12_laysFewest_44_2, if_neg c1, e1, xin_t (show 10240 + (256 - (r + 1)) < 10496 by omega) (by decide), cond_true, cond_true, nI_clamp (by omega), nI_1, show 256 - (r + 1) + 1 = 256 - r by omega]
    have key : ∀ v : Int32, v = nI (chF 0 (256 - (r + 1))) → ∀ j, j < 256 - r → upd a (10240 + (256 - (r + 1))) v (10240 + j) = nI (chF 0 j) := by
      intro v hv j hj
      by_cases c : j = 256 - (r + 1)
      · subst c
        rw [upd_s, hv]
      · rw [upd_n _ _ (by omega)]
        exact ha j (by omega)
    by_cases c2 : 256 - (r + 1) = 0
    · rw [if_pos (by rw [c2]; rfl)]
      exact ih k _ (by omega) (by omega) (key 0 (by rw [c2]; rfl))
    · rw [if_neg (fun e => c2 ((nI_eq0 (by omega)).mp e))]
      exact ih k _ (by omega) (by omega) (key 64 (by rw [chF, if_neg c2]; rfl))
theorem lf_44 {n : Nat} (hn : 50 ≤ n) (o44 : Nat → Int32) {b : Nat} (hb : b < 40) {a0 : Nat → Int32} (h0 : ∀ s, s < 256 → a0 (256 * (b + 1) + s) = nI (chF (39 - b) s)) : ∀ (r k : Nat) (a : Nat → Int32), r ≤ 256 → r < k → (∀ j, j < 256 - r → a (256 * b + j) = nI (chF (40 - b) j)) → (∀ j, 256 * (b + 1) ≤ j → a j = a0 j) → ∃ x a', l_X12_laysFewest_44_44 n o44 (nI b) k (nI (256 - r)) a = some (x, a') ∧ (∀ j, j < 256 → a' (256 * b + j) = nI (chF (40 - b) j)) ∧ ∀ j, 256 * (b + 1) ≤ j → a' j = a0 j := by
  intro r
  induction r with
  | zero =>
    intro k a _ hk ha hz
    obtain ⟨k, rfl⟩ : ∃ q, k = q + 1 := ⟨k - 1, by omega⟩
    rw [l_X12_laysFewest_44_44, if_pos (by decide)]
    exact ⟨_, a, rfl, ha, hz⟩
  | succ r ih =>
    intro k a hr hk ha hz
    obtain ⟨k, rfl⟩ : ∃ q, k = q + 1 := ⟨k - 1, by omega⟩
    have c1 : ¬ (256 : Int32) ≤ nI (256 - (r + 1)) := nI_ge (a := 256 - (r + 1)) (b := 256) (by omega) (by decide)
    have hc : 256 - (r + 1) < 256 := by omega
    have hc2 : 256 - r = 256 - (r + 1) + 1 := by omega
    rw [l_X12_laysFewest_44_44, if_neg c1]
    rw [hc2] at ih
    generalize 256 - (r + 1) = c at *
    have hx : c ^^^ pw (39 - b) < 256 := xor_lt256 hc (pw_lt _)
    have e1 : (256 : Int32) * (nI b + 1) + nI c = nI (256 * (b + 1) + c) := by rw [nI_1, show (256 : Int32) = nI 256 from rfl, nI_mul, nI_add]
    have e2 : (256 : Int32) * (nI b + 1) + nI (c ^^^ pw (39 - b)) = nI (256 * (b + 1) + (c ^^^ pw (39 - b))) := by rw [nI_1, show (256 : Int32) = nI 256 from rfl, nI_mul, nI_add]
    have e3 : (256 : Int32) * nI b + nI c = nI (256 * b + c) := by rw [show (256 : Int32) = nI 256 from rfl, nI_mul, nI_add]
    rw [markOf_is (by omega) hb, Option.bind_some, nI_xor, e1, e2, e3, xin_t (show 256 * (b + 1) + (c ^^^ pw (39 - b)) < 10496 by omega) (by decide), xin_t (show 256 * (b + 1) + c < 10496 by omega) (by decide), xin_t (show 256 * b + c < 10496 by omega) (by decide)]
    simp only [cond_true]
    rw [nI_clamp (by omega), nI_clamp (by omega), nI_clamp (by omega), hz _ (by omega), hz _ (by omega), h0 c hc, h0 _ hx, show (1 : Int32) + nI (chF (39 - b) (c ^^^ pw (39 - b))) = nI (1 + chF (39 - b) (c ^^^ pw (39 - b))) from nI_add 1 _, nI_1]
    have b1 := chF_64 (39 - b) c
    have b2 := chF_64 (39 - b) (c ^^^ pw (39 - b))
    have ef : chF (40 - b) c = if chF (39 - b) c ≤ 1 + chF (39 - b) (c ^^^ pw (39 - b)) then chF (39 - b) c else 1 + chF (39 - b) (c ^^^ pw (39 - b)) := by
      rw [show 40 - b = (39 - b) + 1 by omega, chF]
    have key : ∀ v : Int32, v = nI (chF (40 - b) c) → (∀ j, j < c + 1 → upd a (256 * b + c) v (256 * b + j) = nI (chF (40 - b) j)) ∧ ∀ j, 256 * (b + 1) ≤ j → upd a (256 * b + c) v j = a0 j := by
      intro v hv
      refine ⟨?_, ?_⟩
      · intro j hj
        by_cases cj : j = c
        · subst cj
          rw [upd_s, hv]
        · rw [upd_n _ _ (by omega)]
          exact ha j (by omega)
      · intro j hj
        rw [upd_n _ _ (by omega)]
        exact hz j hj
    by_cases c2 : chF (39 - b) c ≤ 1 + chF (39 - b) (c ^^^ pw (39 - b))
    · rw [if_pos (nI_le c2 (by omega))]
      obtain ⟨k1, k2⟩ := key (nI (chF (39 - b) c)) (by rw [ef, if_pos c2])
      exact ih k _ (by omega) (by omega) k1 k2
    · rw [if_neg (nI_ge (by omega) (by omega))]
      obtain ⟨k1, k2⟩ := key (nI (1 + chF (39 - b) (c ^^^ pw (39 - b)))) (by rw [ef, if_neg c2])
      exact ih k _ (by omega) (by omega) k1 k2
theorem lf_38 {n : Nat} (hn : 300 ≤ n) (o44 : Nat → Int32) : ∀ (m k : Nat) (a : Nat → Int32), m ≤ 40 → m < k → (∀ q, q ≤ 40 - m → ∀ s, s < 256 → a (256 * (40 - q) + s) = nI (chF q s)) → ∃ x a', l_X12_laysFewest_44_38 n o44 k (nI m + (-1)) a = some (x, a') ∧ ∀ q, q ≤ 40 → ∀ s, s < 256 → a' (256 * (40 - q) + s) = nI (chF q s) := by
  intro m
  induction m with
  | zero =>
    intro k a _ hk ha
    obtain ⟨k, rfl⟩ : ∃ q, k = q + 1 := ⟨k - 1, by omega⟩
    rw [l_X12_laysFewest_44_38, if_pos (by decide)]
    exact ⟨_, a, rfl, ha⟩
  | succ m ih =>
    intro k a hm hk ha
    obtain ⟨k, rfl⟩ : ∃ q, k = q + 1 := ⟨k - 1, by omega⟩
    rw [l_X12_laysFewest_44_38, nI_m1, if_neg (nI_pos (by omega))]
    obtain ⟨x, a', e1, e2, e3⟩ := lf_44 (n := n) (by omega) o44 (b := m) (by omega) (a0 := a) (fun s hs => by have := ha (39 - m) (by omega) s hs; rw [show 40 - (39 - m) = m + 1 by omega] at this; exact this) 256 n a (by omega) (by omega) (fun j hj => absurd hj (by omega)) (fun _ _ => rfl)
    rw [show nI (256 - 256) = (0 : Int32) from rfl] at e1
    rw [e1, Option.bind_some]
    refine ih k a' (by omega) (by omega) ?_
    intro q hq s hs
    by_cases c : q = 40 - m
    · rw [c, show 40 - (40 - m) = m by omega]
      exact e2 s hs
    · rw [e3 _ (by omega)]
      exact ha q (by omega) s hs
theorem lf_is {n : Nat} (hn : 300 ≤ n) (o44 a50 : Nat → Int32) : ∃ a', f_X12_laysFewest_44 n o44 a50 = some a' ∧ ∀ q, q ≤ 40 → ∀ s, s < 256 → a' (256 * (40 - q) + s) = nI (chF q s) := by
  unfold f_X12_laysFewest_44
  obtain ⟨x, a1, e1, e2⟩ := lf_2 (n := n) o44 256 n a50 (by omega) (by omega) (fun j hj => absurd hj (by omega))
  rw [show nI (256 - 256) = (0 : Int32) from rfl] at e1
  rw [e1, Option.bind_some]
  obtain ⟨y, a2, e3, e4⟩ := lf_38 hn o44 40 n a1 (by omega) (by omega) (fun q hq s hs => by
    obtain rfl : q = 0 := by omega
    exact e2 s hs)
  rw [show nI 40 + (-1) = (39 : Int32) from rfl] at e3
  simp only []
  rw [e3]
  exact ⟨a2, rfl, e4⟩
theorem nr_l {n : Nat} (hn : 300 ≤ n) (o44 : Nat → Int32) {a : Nat → Int32} (ha : ∀ q, q ≤ 40 → ∀ s, s < 256 → a (256 * (40 - q) + s) = nI (chF q s)) {p : Nat} (hp : p < 2 ^ 31) : ∀ (q k c s : Nat), q ≤ 40 → q < k → s < 256 → chF q s < 64 → c ≤ p → c + q < 2 ^ 31 → (p < c + chF q s → l_X12_nearest_44_49 n o44 a (nI p) k (nI s) (nI c) (nI (40 - q)) = some (Sum.inl (nI (chR q (chF q s) s (p - c)), o44, a))) ∧ (c + chF q s ≤ p → ∃ z, l_X12_nearest_44_49 n o44 a (nI p) k (nI s) (nI c) (nI (40 - q)) = some (Sum.inr z)) := by
  intro q
  induction q with
  | zero =>
    intro k c s _ hk hs hf hc _
    obtain ⟨k, rfl⟩ : ∃ q, k = q + 1 := ⟨k - 1, by omega⟩
    have c1 : (40 : Int32) ≤ nI (40 - 0) := by decide
    rw [l_X12_nearest_44_49, if_pos c1]
    refine ⟨fun h => ?_, fun _ => ⟨_, rfl⟩⟩
    rw [chF] at *
    split at hf
    · rename_i e
      rw [if_pos e] at h
      omega
    · omega
  | succ q ih =>
    intro k c s hq hk hs hf hc hcq
    obtain ⟨k, rfl⟩ : ∃ q, k = q + 1 := ⟨k - 1, by omega⟩
    have c1 : ¬ (40 : Int32) ≤ nI (40 - (q + 1)) := nI_ge (a := 40 - (q + 1)) (b := 40) (by omega) (by decide)
    rw [l_X12_nearest_44_49, if_neg c1]
    by_cases c2 : s = 0
    · subst c2
      rw [if_pos (show nI 0 = 0 from rfl), chF_z]
      exact ⟨fun h => absurd h (by omega), fun _ => ⟨_, rfl⟩⟩
    · rw [if_neg (fun e => c2 ((nI_eq0 (by omega)).mp e))]
      have hx : s ^^^ pw q < 256 := xor_lt256 hs (pw_lt _)
      have e2 : (256 : Int32) * (nI (40 - (q + 1)) + 1) + nI (s ^^^ pw q) = nI (256 * (40 - q) + (s ^^^ pw q)) := by rw [nI_1, show (256 : Int32) = nI 256 from rfl, nI_mul, nI_add, show 40 - (q + 1) + 1 = 40 - q by omega]
      have e3 : (256 : Int32) * nI (40 - (q + 1)) + nI s = nI (256 * (40 - (q + 1)) + s) := by rw [show (256 : Int32) = nI 256 from rfl, nI_mul, nI_add]
      rw [markOf_is (by omega) (show 40 - (q + 1) < 40 by omega), Option.bind_some, show 39 - (40 - (q + 1)) = q by omega, nI_xor, e2, e3, xin_t (show 256 * (40 - q) + (s ^^^ pw q) < 10496 by omega) (by decide), xin_t (show 256 * (40 - (q + 1)) + s < 10496 by omega) (by decide)]
      simp only [cond_true]
      rw [nI_clamp (by omega), nI_clamp (by omega), ha q (by omega) _ hx, ha (q + 1) hq s hs, nI_1, nI_1, show 40 - (q + 1) + 1 = 40 - q by omega, show (1 : Int32) + nI (chF q (s ^^^ pw q)) = nI (1 + chF q (s ^^^ pw q)) from nI_add 1 _]
      have b1 := chF_64 q (s ^^^ pw q)
      have b3 : chF (q + 1) s ≤ 1 + chF q (s ^^^ pw q) := by rw [chF]; split <;> omega
      have b4 : chF (q + 1) s ≠ 0 := fun e => c2 (chF_eq0 e)
      have hD := chF_D (q + 1) s hf
      by_cases c3 : 1 + chF q (s ^^^ pw q) = chF (q + 1) s
      · have hD2 := chF_D q (s ^^^ pw q) (by omega)
        rw [if_pos (by rw [c3]), ← c3]
        rw [show 1 + chF q (s ^^^ pw q) = chF q (s ^^^ pw q) + 1 by omega]
        by_cases c4 : c = p
        · subst c4
          rw [if_pos rfl, Nat.sub_self, chR, if_pos hD2]
          exact ⟨fun _ => by rw [show 39 - q = 40 - (q + 1) by omega], fun h => absurd h (by omega)⟩
        · rw [if_neg (fun e => c4 ((nI_eq (by omega) (by omega)).mp e))]
          obtain ⟨i1, i2⟩ := ih k (c + 1) (s ^^^ pw q) (by omega) (by omega) hx (by omega) (by omega) (by omega)
          refine ⟨fun h => ?_, fun h => i2 (by omega)⟩
          rw [i1 (by omega), show p - c = (p - (c + 1)) + 1 by omega, chR, if_pos hD2]
      · rw [if_neg (fun e => c3 ((nI_eq (by omega) (by omega)).mp e))]
        have b5 : chF (q + 1) s = chF q s := by
          rw [chF] at c3 ⊢
          split
          · rfl
          · rename_i g
            rw [if_neg g] at c3
            exact absurd rfl c3
        rw [b5] at c3 b4 hf hD b3 ⊢
        obtain ⟨i1, i2⟩ := ih k c s (by omega) (by omega) hs (by omega) hc (by omega)
        refine ⟨fun h => ?_, fun h => i2 h⟩
        rw [i1 h]
        have hn2 : ¬ chD q (chF q s - 1) (s ^^^ pw q) = true := fun e => by have := chD_F _ _ _ e; omega
        obtain ⟨v, hv⟩ : ∃ v, chF q s = v + 1 := ⟨chF q s - 1, by omega⟩
        rw [hv] at hn2 ⊢
        rw [Nat.add_sub_cancel] at hn2
        cases p - c with
        | zero => rw [chR, if_neg hn2]
        | succ i => rw [chR, if_neg hn2]
theorem k_nearest {n : Nat} (hn : 300 ≤ n) {a36 : Nat → Int32} (h : ∀ j, j < 40 → a36 j = nI (pw (39 - j))) (a37 o44 a50 : Nat → Int32) (p1 p2 : Int32) : ∃ a x y, f_X11_nearest_0 n a36 a37 p1 p2 = some (a, x) ∧ f_X12_nearest_44 n o44 a50 p1 p2 = some (a, upd o44 0 0, y) := by
  unfold f_X11_nearest_0 f_X12_nearest_44
  rw [isByte_is, isW, isIn_w p1 0 255 0 255 rfl rfl]
  simp only [Option.bind_some]
  by_cases c : 0 ≤ p1 ∧ p1 ≤ 255
  · rw [if_pos c, if_neg one_ne, if_neg one_ne]
    obtain ⟨s, -, hs, rfl⟩ := i32_in (a := 0) (b := 255) (by decide) c (by decide)
    by_cases c2 : (-1) ≤ p2
    · rw [if_pos c2, if_pos c2]
      obtain ⟨m, h7, hD, hN, hF⟩ := ch_m (show s < 256 by omega)
      obtain ⟨x, e1, e2⟩ := few_l (n := n) (by omega) h (show s < 256 by omega) h7 hD hN m n 0 a37 (by omega) (by omega)
      rw [show nI 0 = (0 : Int32) from rfl] at e1
      obtain ⟨y, e3, e4⟩ := lf_is hn (upd o44 0 0) a50
      unfold f_X1_fewestFor_35
      rw [e1, e3]
      simp only [Option.bind_some]
      by_cases c3 : p2 = -1
      · rw [if_pos c3, if_pos c3, xin_t (show s < 10496 by omega) (by decide), cond_true, nI_clamp (by omega)]
        have := e4 40 (by omega) s (by omega)
        rw [show 256 * (40 - 40) + s = s by omega] at this
        rw [this, hF]
        exact ⟨_, _, _, rfl, rfl⟩
      · rw [if_neg c3, if_neg c3]
        obtain ⟨p, hp, rfl⟩ : ∃ p, p < 2 ^ 31 ∧ p2 = nI p := by
          have c4 : (0 : Int32) ≤ p2 := by
            rw [Int32.le_iff_toInt_le] at *
            have : p2.toInt ≠ (-1 : Int32).toInt := fun e => c3 (Int32.toInt_inj.mp e)
            have z1 : (-1 : Int32).toInt = -1 := rfl
            have z2 : (0 : Int32).toInt = 0 := rfl
            omega
          obtain ⟨k, -, g2, g3⟩ := i32_in (a := 0) (b := 2147483647) (by decide) ⟨c4, by rw [Int32.le_iff_toInt_le]; have := p2.toInt_lt; have z1 : (nI 2147483647).toInt = 2147483647 := rfl; omega⟩ (by decide)
          exact ⟨k, by omega, g3⟩
        obtain ⟨i1, i2⟩ := nr_l hn (upd o44 0 0) e4 hp 40 n 0 s (by omega) (by omega) (by omega) (by rw [hF]; omega) (by omega) (by omega)
        rw [show nI 0 = (0 : Int32) from rfl, Nat.zero_add, hF] at i1 i2
        by_cases c4 : p < m
        · rw [if_neg (nI_ge c4 (by omega)), i1 c4]
          unfold f_X1_chosen_35
          rw [if_neg (nI_pos (by omega)), if_neg (show ¬ (8 : Int32) ≤ nI p from nI_ge (a := p) (b := 8) (by omega) (by decide)), xin_t (show p < 8 by omega) (by decide), cond_true, nI_clamp hp, e2 p c4, Nat.sub_zero]
          exact ⟨_, _, _, rfl, rfl⟩
        · obtain ⟨z, i3⟩ := i2 (by omega)
          rw [if_pos (nI_le (by omega) hp), i3]
          exact ⟨_, _, _, rfl, rfl⟩
    · rw [if_neg c2, if_neg c2]
      exact ⟨_, _, _, rfl, rfl⟩
  · rw [if_neg c, if_pos rfl, if_pos rfl]
    exact ⟨_, _, _, rfl, rfl⟩
