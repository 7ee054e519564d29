/-! which bit a syndrome tells -/
theorem pw_lt (k : Nat) : pw k < 256 := by
  induction k with
  | zero => exact (by decide : 1 < 256)
  | succ k ih => exact tx_lt ih
def fnd : Nat → Nat → Int32
  | 0, _ => -1
  | m + 1, s => if pw (39 - m) = s then nI m else fnd m s
def gnd : Nat → Nat → Int32
  | 0, _ => -1
  | m + 1, s => if pw m = s then nI (39 - m) else gnd m s
theorem fnd_gnd : ∀ s, s < 256 → fnd 40 s = gnd 40 s := by decide +kernel
theorem bitOf_l (n s : Nat) (hs : s < 256) : ∀ (m k : Nat), m ≤ 40 → m < k → ∃ o, l_X1_bitOf_5 n (nI s) k (nI (pw (40 - m))) (nI m + (-1)) = some o ∧ Sum.elim (fun z => some z) (fun _ => some (-1)) o = some (fnd m s) := by
  intro m
  induction m with
  | zero =>
    intro k _ hk
    obtain ⟨k, rfl⟩ : ∃ q, k = q + 1 := ⟨k - 1, by omega⟩
    rw [l_X1_bitOf_5, if_pos (by decide)]
    exact ⟨_, rfl, rfl⟩
  | succ m ih =>
    intro k hm hk
    obtain ⟨k, rfl⟩ : ∃ q, k = q + 1 := ⟨k - 1, by omega⟩
    rw [l_X1_bitOf_5, nI_m1, if_neg (nI_pos (by omega))]
    have hp := pw_lt (40 - (m + 1))
    have e39 : 40 - (m + 1) = 39 - m := by omega
    rw [e39] at hp ⊢
    by_cases c : pw (39 - m) = s
    · rw [if_pos (by rw [c])]
      exact ⟨_, rfl, by simp [fnd, c]⟩
    · rw [if_neg (fun q => c ((nI_eq (by omega) (by omega)).mp q)), timesX_is hp, Option.bind_some]
      have e : tx (pw (39 - m)) = pw (40 - m) := by
        rw [show 40 - m = (39 - m) + 1 by omega]; rfl
      rw [e]
      obtain ⟨o, h1, h2⟩ := ih k (by omega) (by omega)
      exact ⟨o, h1, by rw [h2]; simp [fnd, c]⟩
theorem bitOf_is {n s : Nat} (hn : 50 ≤ n) (hs : s < 256) : f_X1_bitOf n (nI s) = some (fnd 40 s) := by
  unfold f_X1_bitOf
  obtain ⟨o, h1, h2⟩ := bitOf_l n s hs 40 n (Nat.le_refl _) (by omega)
  have e1 : nI (pw (40 - 40)) = (1 : Int32) := by decide
  have e2 : (nI 40 + (-1) : Int32) = 39 := by decide
  rw [e1, e2] at h1
  rw [h1, Option.bind_some]
  exact h2
theorem mark_hi : ∀ b, b < 40 → 32 ≤ b → (1 <<< ((39 - nI b) &&& 31) : Int32) = nI (pw (39 - b)) := by decide +kernel
theorem mark_lo : ∀ b, b < 32 → tx8 (rmod 32 ((1 <<< ((31 - nI b) &&& 31) : Int32).toBitVec.toNat)) = pw (39 - b) := by decide +kernel
theorem markOf_is {n b : Nat} (hn : 40 ≤ n) (hb : b < 40) : f_X12_markOf n (nI b) = some (nI (pw (39 - b))) := by
  unfold f_X12_markOf
  by_cases c : 32 ≤ b
  · have c2 : (32 : Int32) ≤ nI b := nI_le (a := 32) c (by omega)
    rw [if_pos c2, mark_hi b hb c]
  · have c2 : ¬ (32 : Int32) ≤ nI b := nI_ge (a := b) (b := 32) (by omega) (by decide)
    rw [if_neg c2, restOf_is hn, Option.bind_some, mark_lo b (by omega)]
theorem singleOf_l {n s : Nat} (hn : 40 ≤ n) (hs : s < 256) : ∀ (m k : Nat), m ≤ 40 → m < k → ∃ o, l_X12_singleOf_2 n (nI s) k (nI (40 - m)) = some o ∧ Sum.elim (fun z => some z) (fun _ => some (-1)) o = some (gnd m s) := by
  intro m
  induction m with
  | zero =>
    intro k _ hk
    obtain ⟨k, rfl⟩ : ∃ q, k = q + 1 := ⟨k - 1, by omega⟩
    rw [l_X12_singleOf_2, if_pos (by decide)]
    exact ⟨_, rfl, rfl⟩
  | succ m ih =>
    intro k hm hk
    obtain ⟨k, rfl⟩ : ∃ q, k = q + 1 := ⟨k - 1, by omega⟩
    have c2 : ¬ (40 : Int32) ≤ nI (40 - (m + 1)) := nI_ge (a := 40 - (m + 1)) (b := 40) (by omega) (by decide)
    rw [l_X12_singleOf_2, if_neg c2, markOf_is hn (by omega), Option.bind_some]
    have e39 : 39 - (40 - (m + 1)) = m := by omega
    rw [e39]
    have hp := pw_lt m
    by_cases c : pw m = s
    · rw [if_pos (by rw [c])]
      exact ⟨_, rfl, by simp [gnd, c]⟩
    · rw [if_neg (fun q => c ((nI_eq (by omega) (by omega)).mp q)), nI_1, show 40 - (m + 1) + 1 = 40 - m by omega]
      obtain ⟨o, h1, h2⟩ := ih k (by omega) (by omega)
      exact ⟨o, h1, by rw [h2]; simp [gnd, c]⟩
theorem singleOf_is {n s : Nat} (hn : 50 ≤ n) (hs : s < 256) : f_X12_singleOf n (nI s) = some (fnd 40 s) := by
  unfold f_X12_singleOf
  obtain ⟨o, h1, h2⟩ := singleOf_l (n := n) (by omega) hs 40 n (Nat.le_refl _) (by omega)
  have e1 : nI (40 - 40) = (0 : Int32) := by decide
  rw [e1] at h1
  rw [h1, Option.bind_some, fnd_gnd s hs]
  exact h2
theorem k_single {n : Nat} (hn : 50 ≤ n) (o44 : Nat → Int32) (p1 : Int32) : ∃ a, f_X11_single_0 n p1 = some a ∧ f_X12_single_44 n o44 p1 = some (a, upd o44 0 0) := by
  unfold f_X11_single_0 f_X12_single_44
  rw [isByte_is, isW, isIn_w p1 0 255 0 255 rfl rfl]
  simp only [Option.bind_some]
  by_cases h : 0 ≤ p1 ∧ p1 ≤ 255
  · rw [if_pos h, if_neg one_ne, if_neg one_ne]
    obtain ⟨k, h1, h2, rfl⟩ := i32_in (a := 0) (b := 255) (by decide) h (by decide)
    rw [bitOf_is hn (by omega), singleOf_is hn (by omega)]
    exact ⟨_, rfl, rfl⟩
  · rw [if_neg h, if_pos rfl, if_pos rfl]
    exact ⟨_, rfl, rfl⟩
theorem xor_byte {a b : Nat} (ha : a < 256) (hb : b < 256) : nI a ^^^ nI b = nI (a ^^^ b) ∧ a ^^^ b < 256 := ⟨nI_xor a b, xor_lt256 ha hb⟩
theorem chk_lt (v : Nat) : chk v < 256 := xor_lt256 (tx8_lt (rmod_lt _ _)) (by decide)
theorem fnd_cases : ∀ s, s < 256 → fnd 40 s = -1 ∨ ∃ m, m < 40 ∧ fnd 40 s = nI m := by decide +kernel
theorem k_mending {n : Nat} (hn : 50 ≤ n) (o44 : Nat → Int32) (p1 p2 p3 : Int32) : ∃ a, f_X11_mending_0 n p1 p2 p3 = some a ∧ f_X12_mending_44 n o44 p1 p2 p3 = some (a, upd o44 0 0) := by
  unfold f_X11_mending_0 f_X12_mending_44
  rw [isW p3, isIn_w p3 0 2 0 2 rfl rfl]
  simp only [Option.bind_some]
  by_cases h3 : 0 ≤ p3 ∧ p3 ≤ 2
  · rw [if_pos h3, if_neg one_ne, if_neg one_ne, isByte_is, isW, isIn_w p2 0 255 0 255 rfl rfl]
    simp only [Option.bind_some]
    by_cases h : 0 ≤ p2 ∧ p2 ≤ 255
    · rw [if_pos h, if_neg one_ne, if_neg one_ne]
      obtain ⟨k, h1, h2, rfl⟩ := i32_in (a := 0) (b := 255) (by decide) h (by decide)
      rw [ofHeader_is (by omega), checkOf_is (by omega)]
      simp only [Option.bind_some]
      obtain ⟨e, hlt⟩ := xor_byte (chk_lt p1.toBitVec.toNat) (show k < 256 by omega)
      rw [e, bitOf_is hn hlt, singleOf_is hn hlt]
      simp only [Option.bind_some]
      obtain ⟨q, g1, g2, rfl⟩ := i32_in (a := 0) (b := 2) (by decide) h3 (by decide)
      have hq : q = 0 ∨ q = 1 ∨ q = 2 := by omega
      rcases hq with rfl | rfl | rfl
      · rw [if_neg (by decide : ¬ nI 0 = 1), if_neg (by decide : ¬ nI 0 = 2), if_pos (by decide : nI 0 = 0)]
        by_cases c : nI (chk p1.toBitVec.toNat ^^^ k) = 0
        · rw [if_pos c, if_pos c]; exact ⟨_, rfl, rfl⟩
        · rw [if_neg c, if_neg c]
          by_cases d : fnd 40 (chk p1.toBitVec.toNat ^^^ k) = -1
          · rw [if_pos d, if_pos d]; exact ⟨_, rfl, rfl⟩
          · rw [if_neg d, if_neg d]; exact ⟨_, rfl, rfl⟩
      · rw [if_pos (by decide : nI 1 = 1), if_neg (by decide : ¬ nI 1 = 0), if_pos (by decide : nI 1 = 1), isIn_w _ 0 31 0 31 rfl rfl]
        simp only [Option.bind_some]
        unfold f_X1_mendedHeader
        rcases fnd_cases _ hlt with d | ⟨m, hm, d⟩
        · rw [d, if_pos (by decide : (-1 : Int32) < 0), if_pos (by decide : (if (0 : Int32) ≤ -1 ∧ (-1 : Int32) ≤ 31 then (1 : Int32) else 0) = 0)]; exact ⟨_, rfl, rfl⟩
        · rw [d, if_neg (nI_pos (by omega))]
          by_cases c : 32 ≤ m
          · have c2 : (32 : Int32) ≤ nI m := nI_le (a := 32) c (by omega)
            have c3 : ¬ ((0 : Int32) ≤ nI m ∧ nI m ≤ 31) := fun z => absurd ((nI_leI (a := m) (b := 31) (by omega) (by decide)).mp z.2) (by omega)
            rw [if_pos c2, if_neg c3, if_pos rfl]; exact ⟨_, rfl, rfl⟩
          · have c2 : ¬ (32 : Int32) ≤ nI m := nI_ge (a := m) (b := 32) (by omega) (by decide)
            have c3 : (0 : Int32) ≤ nI m ∧ nI m ≤ 31 := ⟨nI_pos' (by omega), nI_le (a := m) (b := 31) (by omega) (by decide)⟩
            rw [if_neg c2, if_pos c3, if_neg one_ne]; exact ⟨_, rfl, rfl⟩
      · rw [if_neg (by decide : ¬ nI 2 = 1), if_pos (by decide : nI 2 = 2), if_neg (by decide : ¬ nI 2 = 0), if_neg (by decide : ¬ nI 2 = 1)]
        unfold f_X1_mendedCheck
        rcases fnd_cases _ hlt with d | ⟨m, hm, d⟩
        · rw [d, if_pos (by decide), if_pos (by decide)]; exact ⟨_, rfl, rfl⟩
        · rw [d]
          by_cases c : m < 32
          · have c2 : nI m < 32 := nI_lt (b := 32) c (by decide)
            rw [if_pos c2, if_pos c2]; exact ⟨_, rfl, rfl⟩
          · have c2 : ¬ nI m < 32 := nI_nlt (b := 32) (by omega) (by omega)
            have c3 : ¬ (40 : Int32) ≤ nI m := nI_ge (a := m) (b := 40) (by omega) (by decide)
            rw [if_neg c2, if_neg c2, if_neg c3]; exact ⟨_, rfl, rfl⟩
    · rw [if_neg h, if_pos rfl, if_pos rfl]
      exact ⟨_, rfl, rfl⟩
  · rw [if_neg h3, if_pos rfl, if_pos rfl]
    exact ⟨_, rfl, rfl⟩
