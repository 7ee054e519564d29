/-! the mean -/
theorem mn_k {n R t : Nat} (hn : 20000 ≤ n) (ht : t ≤ 256) {a1 o44 a45 : Nat → Int32} {l1 l3 : Int32} (hR : R ≤ 16) (hr : (if l1 = 0 then a45 1 else a45 2 + 1) = nI R) (hg : f_X11_rungsOf_0 a1 l1 = some (nI R)) : ∃ a, (if nI t = 0 then some (-5) else Option.bind (f_X11_rungsOf_0 a1 l1) (fun q9 => Option.bind (f_X3_meanClimb n q9 (nI t)) (fun q10 => Option.bind (f_X0_ofDouble n q10) (fun q11 => if l3 = 0 then Option.bind (f_X0_upper q11) (fun q14 => some (Int32.toInt64 q14)) else Option.bind (f_X0_lower q11) (fun q13 => some (Int32.toInt64 q13)))))) = some a ∧ b_X12_mean_44_58 n o44 a45 l1 l3 (nI t) = some (a, o44) := by
  by_cases h0 : t = 0
  · subst h0
    rw [if_pos (show nI 0 = 0 from rfl)]
    unfold b_X12_mean_44_58
    rw [if_pos (show nI 0 = 0 from rfl)]
    exact ⟨_, rfl, rfl⟩
  · obtain ⟨z, z1, z2⟩ := mn_is hn (show 0 < t by omega) ht o44 a45 l1 l3 hR hr
    have hne : ¬ nI t = 0 := fun e => absurd ((nI_eq (a := t) (b := 0) (by omega) (by decide)).mp e) h0
    rw [if_neg hne, z2, hg]
    simp only [Option.bind_some]
    cases e : f_X3_meanClimb n (nI R) (nI t) with
    | none => rw [e] at z1; exact absurd z1 (by simp)
    | some q =>
      rw [e] at z1
      have z1 : f_X0_ofDouble n q = some z := z1
      simp only [Option.bind_some]
      rw [z1]
      simp only [Option.bind_some]
      unfold f_X0_upper f_X0_lower
      simp only [Option.bind_some]
      split
      · exact ⟨_, rfl, rfl⟩
      · exact ⟨_, rfl, rfl⟩
theorem k_mean {n : Nat} (hn : 20000 ≤ n) {T : Nat → Nat} {a1 a45 : Nat → Int32} (hT : iT T a1 a45) (o44 : Nat → Int32) (p1 p2 p3 : Int32) : ∃ a, f_X11_mean_0 n a1 p1 p2 p3 = some a ∧ f_X12_mean_44 n o44 a45 p1 p2 p3 = some (a, upd o44 0 0) := by
  unfold f_X11_mean_0 f_X12_mean_44 b_X11_mean_0_18 b_X12_mean_44_25
  rw [isW, isW, isW, isIn_w p1 0 1 0 1 rfl rfl, isIn_w p3 0 1 0 1 rfl rfl, isIn_w p2 0 256 0 256 rfl rfl]
  simp only [Option.bind_some]
  by_cases c1 : 0 ≤ p1 ∧ p1 ≤ 1
  · rw [if_pos c1, if_neg one_ne, if_neg one_ne]
    by_cases c3 : 0 ≤ p3 ∧ p3 ≤ 1
    · rw [if_pos c3, if_neg one_ne, if_neg one_ne]
      by_cases c2 : 0 ≤ p2 ∧ p2 ≤ 256
      · rw [if_pos c2, if_neg one_ne, if_neg one_ne]
        obtain ⟨w, -, hw, rfl⟩ := i32_in (a := 0) (b := 256) (by decide) c2 (by decide)
        have t1 := hT.1 1 (by decide)
        have t2 := hT.1 2 (by decide)
        have b1 := hT.2.2.1
        have b2 := hT.2.2.2.1
        unfold f_X11_climbsOf
        by_cases d : p1 = 0
        · rw [if_pos d, if_pos d]
          simp only [Option.bind_some]
          rw [show (256 : Int32) - nI w = nI (256 - w) from nI_sb (a := 256) (b := w) hw]
          exact mn_k hn (by omega) (R := T 1) (by omega) (by rw [if_pos d, t1.2]) (by unfold f_X11_rungsOf_0; rw [if_pos d, t1.1])
        · rw [if_neg d, if_neg d]
          simp only [Option.bind_some]
          exact mn_k hn hw (R := T 2 + 1) (by omega) (by rw [if_neg d, t2.2]; exact nI_add (T 2) 1) (by unfold f_X11_rungsOf_0; rw [if_neg d, t2.1, show nI (T 2) + 1 = nI (T 2 + 1) from nI_add (T 2) 1])
      · rw [if_neg c2, if_pos rfl, if_pos rfl]
        exact ⟨_, rfl, rfl⟩
    · rw [if_neg c3, if_pos rfl, if_pos rfl]
      exact ⟨_, rfl, rfl⟩
  · rw [if_neg c1, if_pos rfl, if_pos rfl]
    exact ⟨_, rfl, rfl⟩
