theorem tog_c (b : Bool) : vp_nar .byte (Int8.toInt32 (Int32.toInt8 (b2i b ^^^ 1))) = b2i (!b) := by cases b <;> decide
theorem tog_m (b : Bool) : 1 - b2i b = b2i (!b) := by cases b <;> decide
theorem k_flip {sz at_ : Nat} {bt : Nat → Bool} {o2 a3 o44 a48 a51 : Nat → Int32} (hL : iL sz at_ bt o2 a3 o44 a48 a51) (p1 : Int32) : ∃ (a : Int32) (a3' a48' : Nat → Int32) (bt' : Nat → Bool), f_X11_flip_0 o2 a3 p1 = some (a, a3') ∧ f_X12_flip_44 o44 a48 a51 p1 = some (a, upd o44 0 0, a48') ∧ iL sz at_ bt' o2 a3' o44 a48' a51 := by
  obtain ⟨l1, l2, l3, l4, l5, l6, l7⟩ := id hL
  unfold f_X11_flip_0 f_X12_flip_44
  rw [has_is l6 l1, isBit_is (o44 := upd o44 0 0) l6 l3]
  simp only [Option.bind_some]
  by_cases h : 0 ≤ p1 ∧ p1 < nI sz
  · rw [if_pos h, if_neg one_ne, if_neg one_ne, l2, l4]
    obtain ⟨k, hk, rfl⟩ := nI_of (Int32.not_lt.mpr h.1)
    have hks : k < sz := (nI_ltI hk (by omega)).mp h.2
    have h96 : k < 9600 := by omega
    by_cases c : nI at_ ≤ nI k
    · rw [if_pos c, if_pos c]
      unfold f_X4_toggle_2 f_X4_bitAt_2
      have c9 : ¬ (9600 : Int32) ≤ nI k := nI_ge (a := k) (b := 9600) (by omega) (by decide)
      rw [has_is l6 l1, if_pos h]
      simp only [Option.bind_some, xin_nI hk, nI_clamp hk, h96, decide_true, cond_true, if_neg one_ne, if_neg (nI_pos hk), if_neg c9]
      rw [(l7 k hks).1, (l7 k hks).2, tog_c, tog_m]
      refine ⟨b2i (!bt k), upd a3 k (b2i (!bt k)), upd a48 k (b2i (!bt k)), fun j => if j = k then !bt k else bt j, by simp [upd], by simp [upd], l1, l2, l3, l4, l5, l6, fun j hj => ?_⟩
      by_cases e : j = k
      · subst e; simp [upd]
      · simp [upd, e, l7 j hj]
    · rw [if_neg c, if_neg c]
      exact ⟨_, _, _, bt, rfl, rfl, hL⟩
  · rw [if_neg h, if_pos rfl, if_pos rfl]
    exact ⟨_, _, _, bt, rfl, rfl, hL⟩
