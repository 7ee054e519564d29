/-! the line -/
theorem b2i_01 (b : Bool) : b2i b = 0 ∨ b2i b = 1 := by cases b <;> simp [b2i]
theorem xb_if (c : Prop) (i : Decidable c) : xb (@ite Int32 c i 1 0) = true := by
  by_cases h : c
  · rw [if_pos h]; decide
  · rw [if_neg h]; decide
/-- there is such a bit: on both sides -/
theorem has_is {sz : Nat} (hs : sz ≤ 9600) {o2 a3 : Nat → Int32} (h1 : o2 1 = nI sz) (x : Int32) : f_X4_has_2 o2 a3 x = some (if 0 ≤ x ∧ x < nI sz then 1 else 0) := by
  unfold f_X4_has_2
  rw [h1]
  by_cases c1 : x < 0
  · rw [if_pos c1, if_neg (fun z => absurd c1 (Int32.not_lt.mpr z.1))]
  · rw [if_neg c1]
    by_cases c2 : nI sz ≤ x
    · rw [if_pos c2, if_neg (fun z => absurd z.2 (Int32.not_lt.mpr c2))]
    · have c3 : ¬ (9600 : Int32) ≤ x := by
        intro z
        obtain ⟨k, hk, rfl⟩ := nI_of c1
        have z1 := (nI_leI (a := 9600) (b := k) (by decide) hk).mp z
        exact c2 ((nI_leI (by omega) hk).mpr (by omega))
      have c4 : 0 ≤ x ∧ x < nI sz := ⟨Int32.not_lt.mp c1, Int32.not_le.mp c2⟩
      rw [if_neg c2, if_neg c3, if_pos c4]
theorem isBit_is {sz : Nat} (hs : sz ≤ 9600) {o44 : Nat → Int32} (h1 : o44 6 = nI sz) (x : Int32) : f_X12_isBit_44 o44 x = some (if 0 ≤ x ∧ x < nI sz then 1 else 0) := by
  unfold f_X12_isBit_44
  rw [h1]
  have e := isIn_w x 0 (nI sz - 1) 0 (Int32.toInt64 (nI sz - 1)) rfl rfl
  rw [e]
  simp only [Option.bind_some]
  have hiff : (0 ≤ x ∧ x ≤ nI sz - 1) ↔ (0 ≤ x ∧ x < nI sz) := by
    constructor
    · rintro ⟨g1, g2⟩
      refine ⟨g1, ?_⟩
      rw [Int32.le_iff_toInt_le, show (1 : Int32) = nI 1 from rfl, pk_sub_toInt (by omega) (by omega)] at g2
      rw [Int32.lt_iff_toInt_lt, nI_toInt (by omega)]
      omega
    · rintro ⟨g1, g2⟩
      refine ⟨g1, ?_⟩
      rw [Int32.lt_iff_toInt_lt, nI_toInt (by omega)] at g2
      rw [Int32.le_iff_toInt_le, show (1 : Int32) = nI 1 from rfl, pk_sub_toInt (by omega) (by omega)]
      omega
  simp only [hiff]
  rw [xb_if]
  rfl
theorem k_bit {sz at_ : Nat} {bt : Nat → Bool} {o2 a3 o44 a48 a51 : Nat → Int32} (hL : iL sz at_ bt o2 a3 o44 a48 a51) (p1 : Int32) : ∃ a, f_X11_bit_0 o2 a3 p1 = some a ∧ f_X12_bit_44 o44 a48 p1 = some (a, upd o44 0 0) := by
  obtain ⟨l1, l2, l3, l4, l5, l6, l7⟩ := hL
  unfold f_X11_bit_0 f_X12_bit_44
  rw [has_is l6 l1, isBit_is (o44 := upd o44 0 0) l6 l3]
  simp only [Option.bind_some]
  by_cases h : 0 ≤ p1 ∧ p1 < nI sz
  · rw [if_pos h, if_neg one_ne, if_neg one_ne]
    obtain ⟨k, hk, rfl⟩ := nI_of (Int32.not_lt.mpr h.1)
    have hks : k < sz := (nI_ltI hk (by omega)).mp h.2
    unfold f_X4_bitAt_2
    have c9 : ¬ (9600 : Int32) ≤ nI k := nI_ge (a := k) (b := 9600) (by omega) (by decide)
    rw [if_neg (nI_pos hk), if_neg c9, xin_nI hk, nI_clamp hk]
    have h96 : k < 9600 := by omega
    simp only [h96, decide_true, cond_true, Option.bind_some]
    exact ⟨_, rfl, by rw [(l7 k hks).1, (l7 k hks).2]⟩
  · rw [if_neg h, if_pos rfl, if_pos rfl]
    exact ⟨_, rfl, rfl⟩
