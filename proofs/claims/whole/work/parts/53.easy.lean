/-! methods that only read -/
theorem isIn_w (x lo hi : Int32) (l h : Int64) (hl : lo.toInt64 = l) (hh : hi.toInt64 = h) : f_X12_isIn x.toInt64 l h = some (if lo ≤ x ∧ x ≤ hi then 1 else 0) := by
  subst hl; subst hh
  exact (isIn_is x lo hi).trans (isW x lo hi)
theorem one_ne : ¬ ((1 : Int32) = 0) := by decide
theorem i32_in {x : Int32} {a b : Nat} (hb : b < 2 ^ 31) (h : nI a ≤ x ∧ x ≤ nI b) (ha : a ≤ b) : ∃ k, a ≤ k ∧ k ≤ b ∧ x = nI k := by
  have h0 : ¬ x < 0 := by
    intro q
    have h1 := h.1
    rw [Int32.le_iff_toInt_le, nI_toInt (by omega)] at h1
    rw [Int32.lt_iff_toInt_lt] at q
    simp at q
    omega
  obtain ⟨k, hk, rfl⟩ := nI_of h0
  refine ⟨k, ?_, ?_, rfl⟩
  · exact (nI_leI (by omega) hk).mp h.1
  · exact (nI_leI hk hb).mp h.2
theorem k_check {n : Nat} (hn : 40 ≤ n) (o44 : Nat → Int32) (p1 : Int32) : ∃ a, f_X11_check_0 n p1 = some a ∧ f_X12_check_44 n o44 p1 = some (a, upd o44 0 0) := by
  refine ⟨nI (chk p1.toBitVec.toNat), ?_, ?_⟩
  · unfold f_X11_check_0; rw [ofHeader_is hn, Option.bind_some]
  · unfold f_X12_check_44; rw [checkOf_is hn, Option.bind_some]
theorem k_syndrome {n : Nat} (hn : 40 ≤ n) (o44 : Nat → Int32) (p1 p2 : Int32) : ∃ a, f_X11_syndrome_0 n p1 p2 = some a ∧ f_X12_syndrome_44 n o44 p1 p2 = some (a, upd o44 0 0) := by
  unfold f_X11_syndrome_0 f_X12_syndrome_44
  rw [isByte_is, isW, isIn_w p2 0 255 0 255 rfl rfl]
  simp only [Option.bind_some]
  by_cases h : 0 ≤ p2 ∧ p2 ≤ 255
  · rw [if_pos h, if_neg one_ne, if_neg one_ne, ofHeader_is hn, checkOf_is hn]
    exact ⟨_, rfl, rfl⟩
  · rw [if_neg h, if_pos rfl, if_pos rfl]
    exact ⟨_, rfl, rfl⟩
theorem k_told {T : Nat → Nat} {a1 a45 o2 a3 o44 a48 a51 o4 : Nat → Int32} {sz at_ : Nat} {bt : Nat → Bool} (hT : iT T a1 a45) (hL : iL sz at_ bt o2 a3 o44 a48 a51) (h4 : o4 3 = o44 7) (p1 : Int32) : ∃ a, f_X11_told_0 a1 o2 o4 p1 = some a ∧ f_X12_told_44 o44 a45 a51 p1 = some (a, upd o44 0 0) := by
  obtain ⟨l1, l2, l3, l4, -⟩ := hL
  unfold f_X11_told_0 f_X12_told_44
  rw [isW, isIn_w p1 10 16 10 16 rfl rfl]
  simp only [Option.bind_some]
  by_cases h : 10 ≤ p1 ∧ p1 ≤ 16
  · rw [if_pos h, if_neg one_ne, if_neg one_ne]
    obtain ⟨k, h1, h2, rfl⟩ := i32_in (a := 10) (b := 16) (by decide) h (by decide)
    have e : nI k - 10 = nI (k - 10) := pk_sub (a := k) (b := 10) h1
    rw [e, xin_nI (by omega), nI_clamp (by omega)]
    have hk : k - 10 < 7 := by omega
    simp only [hk, decide_true, cond_true]
    exact ⟨_, rfl, by rw [(hT.1 _ hk).1, (hT.1 _ hk).2]⟩
  · rw [if_neg h, if_pos rfl, if_pos rfl, l1, l2, l3, l4, h4]
    by_cases c0 : p1 = 0
    · rw [if_pos c0, if_pos c0]; exact ⟨_, rfl, rfl⟩
    · rw [if_neg c0, if_neg c0]
      by_cases c1 : p1 = 1
      · rw [if_pos c1, if_pos c1]; exact ⟨_, rfl, rfl⟩
      · rw [if_neg c1, if_neg c1]
        by_cases c2 : p1 = 2
        · rw [if_pos c2, if_pos c2]; exact ⟨_, rfl, rfl⟩
        · rw [if_neg c2, if_neg c2]; exact ⟨_, rfl, rfl⟩
theorem k_count {o16 a17 o44 a51 : Nat → Int32} {cn : Nat → Nat} (hc : ∀ k, k < 14 → a17 k = nI (cn k) ∧ a51 (13 + k) = nI (cn k)) (p1 : Int32) : ∃ a, f_X11_count_0 o16 a17 p1 = some a ∧ f_X12_count_44 o44 a51 p1 = some (a, upd o44 0 0) := by
  unfold f_X11_count_0 f_X12_count_44
  rw [isW, isIn_w p1 0 13 0 13 rfl rfl]
  simp only [Option.bind_some]
  by_cases h : 0 ≤ p1 ∧ p1 ≤ 13
  · rw [if_pos h, if_neg one_ne, if_neg one_ne]
    obtain ⟨k, h1, h2, rfl⟩ := i32_in (a := 0) (b := 13) (by decide) h (by decide)
    have hk : k < 14 := by omega
    have e : 13 + nI k = nI (13 + k) := nI_add 13 k
    rw [e, xin_nI (by omega), xin_nI (by omega), nI_clamp (by omega), nI_clamp (by omega)]
    have hk2 : 13 + k < 875 := by omega
    simp only [hk, hk2, decide_true, cond_true]
    exact ⟨_, rfl, by rw [(hc k hk).1, (hc k hk).2]⟩
  · rw [if_neg h, if_pos rfl, if_pos rfl]
    exact ⟨_, rfl, rfl⟩
