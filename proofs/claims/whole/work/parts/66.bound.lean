/-! bounds of the receiver on paper are kept -/
theorem bC_ct {m : Nat} {S : Nat → Nat} (h : bC m S) (j : Nat) : bC (m + 1) (aCt S j) := by
  intro k hk
  unfold aCt
  by_cases c : k = j
  · rw [← c, su_s]; have := h k hk; omega
  · rw [su_n (by omega)]; have := h k hk; omega
theorem bC_up {m m' : Nat} {S : Nat → Nat} (h : bC m S) (hm : m ≤ m') : bC m' S := fun k hk => Nat.le_trans (h k hk) hm
theorem bC_cg {m : Nat} {S S' : Nat → Nat} (h : bC m S) (e : ∀ j, 13 ≤ j → j < 27 → S' j = S j) : bC m S' := by
  intro k hk
  rw [e _ (by omega) (by omega)]; exact h k hk
theorem bC_su {m : Nat} {S : Nat → Nat} {k v : Nat} (hk : k < 13 ∨ 27 ≤ k) (h : bC m S) : bC m (su S k v) := bC_cg h (fun j h1 h2 => su_n (by omega))
theorem bC_tl {m to : Nat} {S : Nat → Nat} (h : bC m S) : bC m (aTl to S) := bC_cg h (fun j h1 h2 => aTl_lo _ _ (by omega))
theorem bC_tn {m to : Nat} {S : Nat → Nat} (h : bC m S) : bC (m + 3) (aTn to S) := by
  unfold aTn
  have h1 : bC (m + 2) (aT4 to (aCt (aTl to S) 7)) := by
    unfold aT4
    by_cases c : to = 2
    · rw [if_pos c]; exact bC_ct (bC_ct (bC_tl h) 7) 4
    · rw [if_neg c]; exact bC_up (bC_ct (bC_tl h) 7) (by omega)
  have h2 : bC (m + 3) (aT5 (aT4 to (aCt (aTl to S) 7))) := by
    unfold aT5
    by_cases c : aT4 to (aCt (aTl to S) 7) 1 = 2
    · rw [if_pos c]; exact bC_ct h1 5
    · rw [if_neg c]; exact bC_up h1 (by omega)
  unfold aTe
  exact bC_su (by decide) (bC_su (by decide) (bC_su (by decide) (bC_su (by decide) (bC_su (by decide) (bC_su (by decide) h2)))))
theorem bC_hu {T : Nat → Nat} {m : Nat} {S : Nat → Nat} (h : bC m S) : bC (m + 3) (aHu T S) := by
  unfold aHu
  by_cases c : (S 874 + 1) % T 6 = 0 ∧ 40 ≤ S 5 ∧ aSyn S = 0
  · rw [if_pos c]; exact bC_su (by decide) (bC_tn (bC_su (by decide) h))
  · rw [if_neg c]; exact bC_up (bC_su (by decide) h) (by omega)
theorem bC_nr {T : Nat → Nat} {m y : Nat} {S : Nat → Nat} (h : bC m S) : bC (m + 3) (aNr T y S) := by
  unfold aNr
  by_cases c : y = 0
  · rw [if_pos c]
    by_cases d : T 2 ≤ S 2 + 1
    · rw [if_pos d]; exact bC_su (by decide) (bC_su (by decide) (bC_su (by decide) (bC_tn (bC_su (by decide) (bC_su (by decide) h)))))
    · rw [if_neg d]; exact bC_up (bC_su (by decide) (bC_su (by decide) h)) (by omega)
  · rw [if_neg c]; exact bC_tn h
theorem bC_wr {b : Int32} {m : Nat} {S : Nat → Nat} (h : bC m S) : bC (m + 3) (aWr b S) := by
  unfold aWr
  by_cases c : b = -1
  · rw [if_pos c]; exact bC_up (bC_ct (bC_su (by decide) (bC_su (by decide) (bC_su (by decide) h))) 2) (by omega)
  · rw [if_neg c]
    exact bC_cg (bC_up (bC_ct (bC_su (by decide) (bC_su (by decide) (bC_su (by decide) h))) 1) (by omega)) (fun j h1 h2 => aMd_lo _ _ (by omega))
theorem bC_sr {T : Nat → Nat} {m y : Nat} {S : Nat → Nat} (h : bC m S) : bC (m + 3) (aSu T y S) := by
  unfold aSu
  by_cases c : y = 0
  · rw [if_pos c]; exact bC_up (bC_su (by decide) (bC_su (by decide) (bC_su (by decide) h))) (by omega)
  · rw [if_neg c]
    by_cases d : S 3 + 1 < T 1
    · rw [if_pos d]; exact bC_wr (bC_su (by decide) h)
    · rw [if_neg d]; exact bC_tn (bC_su (by decide) h)
theorem bC_hd {T : Nat → Nat} {m : Nat} {S : Nat → Nat} (h : bC m S) : bC (m + 5) (aHd T S) := by
  unfold aHd
  by_cases c : 40 ≤ S 8 + 1
  · rw [if_pos c]
    have h1 : bC m (aH1 S) := by
      unfold aH1
      exact bC_su (by decide) (bC_su (by decide) (bC_su (by decide) (bC_su (by decide) (bC_su (by decide) (bC_su (by decide) h)))))
    have h2 : bC (m + 1) (aH2 (aSyn S) (aH1 S)) := by
      unfold aH2
      by_cases d : aSyn S = 0
      · rw [if_pos d]; exact bC_ct h1 0
      · rw [if_neg d]; exact bC_up h1 (by omega)
    have h3 : bC (m + 2) (aH3 (aSyn S) (aH2 (aSyn S) (aH1 S))) := by
      unfold aH3
      exact bC_ct (bC_su (by omega) (bC_su (by omega) h2)) 8
    refine bC_su (by omega) ?_
    unfold aH4
    by_cases d : aH3 (aSyn S) (aH2 (aSyn S) (aH1 S)) 1 = 1
    · rw [if_pos d]; exact bC_nr h3
    · rw [if_neg d]; exact bC_sr h3
  · rw [if_neg c]; exact bC_up (bC_su (by decide) h) (by omega)
theorem bC_dl {T0 sc : Nat} {hd : Nat → Int32} {sy : Nat → Nat → Nat} {m : Nat} {S : Nat → Nat} (h : bC m S) : bC (m + 2) (aDl T0 sc hd sy S) := by
  have h1 : bC (m + 1) (aD1 T0 S) := by
    unfold aD1
    refine bC_ct ?_ 3
    refine bC_cg (bC_su (k := 80 + 52 * (S 16 % 12) + 3) (v := T0) (by omega) (bC_su (k := 80 + 52 * (S 16 % 12) + 2) (v := S 12) (by omega) (bC_su (k := 80 + 52 * (S 16 % 12) + 1) (v := S 10) (by omega) (bC_su (k := 80 + 52 * (S 16 % 12)) (v := S 11) (by omega) h)))) (fun j h1 h2 => ?_)
    exact if_neg (fun z => by omega)
  unfold aDl
  by_cases c : aFn T0 hd sy (nI (S 11)) (fun i => S (32 + i)) sc 0 = -1
  · rw [if_pos c]; exact bC_ct h1 9
  · rw [if_neg c]; exact bC_up h1 (by omega)
theorem bC_l2 {b : Nat} {m : Nat} {S : Nat → Nat} (h : bC m S) : bC m (aL2 b S) := by
  have h1 : bC m (aL1 b S) := bC_cg h (fun j h1 h2 => aL1_0 _ _ (by omega))
  unfold aL2
  by_cases c : (S 7 + 1) % 8 = 0
  · rw [if_pos c]; exact bC_su (by omega) h1
  · rw [if_neg c]; exact h1
theorem bC_l3 {T : Nat → Nat} {sc : Nat} {hd : Nat → Int32} {sy : Nat → Nat → Nat} {m : Nat} {S : Nat → Nat} (h : bC m S) : bC (m + 2) (aL3 T sc hd sy S) := by
  have h1 : bC m (su (su S 7 0) 6 1) := bC_su (by decide) (bC_su (by decide) h)
  unfold aL3
  by_cases c : 8 * T 0 ≤ S 7
  · rw [if_pos c]
    by_cases d : S 9 = 0
    · rw [if_pos d]; exact bC_up h1 (by omega)
    · rw [if_neg d]
      by_cases g : T 5 = 1 ∧ nI (S 11) = 1
      · rw [if_pos g]; exact bC_up (bC_ct h1 10) (by omega)
      · rw [if_neg g]; exact bC_dl h1
  · rw [if_neg c]; exact bC_up h (by omega)
theorem bC_wt {T : Nat → Nat} {was : Nat} {m : Nat} {S : Nat → Nat} (h : bC m S) : bC (m + 1) (aWt T was S) := by
  have h1 : bC m (aW1 was S) := bC_su (by decide) h
  unfold aWt
  by_cases c : T 4 ≤ aW1 was S 872
  · rw [if_pos c]
    refine bC_su (by decide) ?_
    unfold aW2
    by_cases d : aW1 was S 1 ≠ 2 ∧ aW1 was S 873 = 0
    · rw [if_pos d]; exact bC_ct h1 11
    · rw [if_neg d]; exact bC_up h1 (by omega)
  · rw [if_neg c]; exact bC_up h1 (by omega)
theorem bC_p1 {b : Nat} {m : Nat} {S : Nat → Nat} (h : bC m S) : bC (m + 1) (aP1 b S) := by
  unfold aP1 aPs
  exact bC_ct (bC_su (by decide) (bC_su (by decide) (bC_su (by decide) (bC_su (by decide) h)))) _
theorem bC_mid {T : Nat → Nat} {sc : Nat} {hd : Nat → Int32} {sy : Nat → Nat → Nat} {b m : Nat} {S : Nat → Nat} (h : bC m S) : bC (m + 6) (aMid T sc hd sy b S) := by
  unfold aMid
  by_cases c : S 1 = 0
  · rw [if_pos c]; exact bC_up (bC_hu (bC_p1 h)) (by omega)
  · rw [if_neg c]
    by_cases d : S 6 = 1
    · rw [if_pos d]; exact bC_hd (bC_p1 h)
    · rw [if_neg d]; unfold aLd; exact bC_up (bC_l3 (bC_l2 (bC_p1 h))) (by omega)
/-- the low ones -/
theorem lw_cg {T0 m : Nat} {S S' : Nat → Nat} (h : lw T0 m S) (e : ∀ j, j < 13 ∨ 872 ≤ j → S' j = S j) : lw T0 m S' := by
  unfold lw
  rw [e 1 (by decide), e 2 (by decide), e 3 (by decide), e 4 (by decide), e 873 (by decide), e 872 (by decide), e 874 (by decide), e 6 (by decide), e 7 (by decide), e 8 (by decide), e 9 (by decide), e 10 (by decide)]
  exact h
theorem lw_up {T0 m m' : Nat} {S : Nat → Nat} (h : lw T0 m S) (hm : m ≤ m') : lw T0 m' S := by
  obtain ⟨⟨h1, h2, h3, h4, h5, h6, h7⟩, hx⟩ := h
  exact ⟨⟨h1, by omega, by omega, h4, h5, by omega, by omega⟩, hx⟩
theorem ct_lo (S : Nat → Nat) {k : Nat} (hk : k < 14) : ∀ j, j < 13 ∨ 872 ≤ j → aCt S k j = S j := fun j hj => su_n (by omega)
theorem aTn_fr (to : Nat) (S : Nat → Nat) {j : Nat} (h : j < 13 ∨ 27 ≤ j) (h2 : j < 704 ∨ 776 ≤ j) (h3 : j ≠ 1 ∧ j ≠ 6 ∧ j ≠ 7 ∧ j ≠ 8 ∧ j ≠ 9 ∧ j ≠ 874) : aTn to S j = S j := by
  have h4 : aTl to S j = S j := by
    unfold aTl
    rw [su_n (by omega), su_n (by omega), su_n (by omega)]
  have h5 : ∀ (U : Nat → Nat) (k : Nat), k < 14 → aCt U k j = U j := fun U k hk => su_n (by omega)
  unfold aTn
  rw [aTe_at _ _ h3]
  have h6 : aT4 to (aCt (aTl to S) 7) j = S j := by
    unfold aT4
    by_cases c : to = 2
    · rw [if_pos c, h5 _ 4 (by decide), h5 _ 7 (by decide), h4]
    · rw [if_neg c, h5 _ 7 (by decide), h4]
  unfold aT5
  by_cases c : aT4 to (aCt (aTl to S) 7) 1 = 2
  · rw [if_pos c, h5 _ 5 (by decide), h6]
  · rw [if_neg c, h6]
theorem lw_tn {T0 m to : Nat} {S : Nat → Nat} (h0 : 0 < T0) (ht : to ≤ 2) (h : lw T0 m S) : lw T0 m (aTn to S) := by
  obtain ⟨⟨h1, h2, h3, h4, h5, h6, h7⟩, g1, g2, g3, g4, g5, g6, g7, g8⟩ := h
  unfold lw
  rw [aTn_fr to S (j := 2) (by decide) (by decide) (by decide), aTn_fr to S (j := 3) (by decide) (by decide) (by decide), aTn_fr to S (j := 4) (by decide) (by decide) (by decide), aTn_fr to S (j := 10) (by decide) (by decide) (by decide), aTn_fr to S (j := 872) (by decide) (by decide) (by decide), aTn_fr to S (j := 873) (by decide) (by decide) (by decide), aTn_1, show aTn to S 6 = 0 from rfl, show aTn to S 7 = 0 from rfl, show aTn to S 8 = 0 from rfl, show aTn to S 9 = 0 from rfl, show aTn to S 874 = 0 from rfl]
  exact ⟨⟨ht, h2, h3, h4, h5, h6, Nat.zero_le _⟩, by decide, by decide, g3, by decide, by omega, fun q => (by cases q), fun _ => rfl, fun _ => ⟨rfl, rfl, rfl⟩⟩
theorem lw_hu {T : Nat → Nat} {T0 m : Nat} {S : Nat → Nat} (h0 : 0 < T0) (h : lw T0 m S) : lw T0 (m + 1) (aHu T S) := by
  have h1 : lw T0 (m + 1) (su S 874 (S 874 + 1)) := by
    obtain ⟨⟨h1, h2, h3, h4, h5, h6, h7⟩, hx⟩ := h
    exact ⟨⟨h1, Nat.le_succ_of_le h2, Nat.le_succ_of_le h3, h4, h5, Nat.le_succ_of_le h6, Nat.succ_le_succ h7⟩, hx⟩
  unfold aHu
  by_cases c : (S 874 + 1) % T 6 = 0 ∧ 40 ≤ S 5 ∧ aSyn S = 0
  · rw [if_pos c]
    obtain ⟨⟨h1, h2, h3⟩, hx⟩ := lw_tn (to := 1) h0 (by decide) h1
    exact ⟨⟨h1, Nat.zero_le _, h3⟩, hx⟩
  · rw [if_neg c]; exact h1
theorem lw_nr {T : Nat → Nat} {T0 m y : Nat} {S : Nat → Nat} (h0 : 0 < T0) (hs : S 1 ≠ 0) (h : lw T0 m S) : lw T0 (m + 1) (aNr T y S) := by
  have h1 : lw T0 (m + 1) (su (su S 9 0) 2 (S 2 + 1)) := by
    obtain ⟨⟨h1, h2, h3, h4, h5, h6, h7⟩, g1, g2, g3, g4, g5, g6, g7, g8⟩ := h
    exact ⟨⟨h1, Nat.succ_le_succ h2, Nat.le_succ_of_le h3, h4, h5, Nat.le_succ_of_le h6, Nat.le_succ_of_le h7⟩, g1, Nat.zero_le _, g3, g4, g5, g6, g7, fun q => absurd q hs⟩
  unfold aNr
  by_cases c : y = 0
  · rw [if_pos c]
    by_cases d : T 2 ≤ S 2 + 1
    · rw [if_pos d]
      obtain ⟨⟨h1, h2, h3, h4, h5, h6, h7⟩, g1, g2, g3, g4, g5, g6, g7, g8⟩ := lw_tn (to := 2) h0 (by decide) h1
      exact ⟨⟨h1, h2, Nat.zero_le _, Nat.le_refl 1, h5, h6, h7⟩, g1, Nat.le_refl 1, g3, g4, g5, g6, g7, fun q => (by cases q)⟩
    · rw [if_neg d]; exact h1
  · rw [if_neg c]; exact lw_tn h0 (by decide) (lw_up h (by omega))
theorem lw_wr {b : Int32} {T0 m : Nat} {S : Nat → Nat} (hs : S 1 ≠ 0) (h : lw T0 m S) : lw T0 m (aWr b S) := by
  obtain ⟨⟨h1, h2, h3, h4, h5, h6, h7⟩, g1, g2, g3, g4, g5, g6, g7, g8⟩ := h
  unfold aWr
  by_cases c : b = -1
  · rw [if_pos c]
    exact ⟨⟨h1, h2, h3, Nat.zero_le _, h5, h6, h7⟩, g1, Nat.zero_le _, Nat.zero_le _, g4, g5, g6, g7, fun q => absurd q hs⟩
  · rw [if_neg c]
    have h8 : lw T0 m (aCt (su (su (su S 4 0) 9 1) 10 1) 1) := ⟨⟨h1, h2, h3, Nat.zero_le _, h5, h6, h7⟩, g1, Nat.le_refl 1, Nat.le_refl 1, g4, g5, g6, g7, fun q => absurd q hs⟩
    unfold aMd
    by_cases d : 0 ≤ b ∧ b ≤ 31
    · rw [if_pos d]; exact h8
    · rw [if_neg d]; exact h8
theorem lw_sr {T : Nat → Nat} {T0 m y : Nat} {S : Nat → Nat} (h0 : 0 < T0) (hs : S 1 ≠ 0) (h : lw T0 m S) : lw T0 (m + 1) (aSu T y S) := by
  obtain ⟨⟨h1, h2, h3, h4, h5, h6, h7⟩, g1, g2, g3, g4, g5, g6, g7, g8⟩ := id h
  have h8 : lw T0 (m + 1) (su S 3 (S 3 + 1)) := ⟨⟨h1, Nat.le_succ_of_le h2, Nat.succ_le_succ h3, h4, h5, Nat.le_succ_of_le h6, Nat.le_succ_of_le h7⟩, g1, g2, g3, g4, g5, g6, g7, g8⟩
  unfold aSu
  by_cases c : y = 0
  · rw [if_pos c]
    exact ⟨⟨h1, Nat.le_succ_of_le h2, Nat.zero_le _, Nat.le_refl 1, h5, Nat.le_succ_of_le h6, Nat.le_succ_of_le h7⟩, g1, Nat.le_refl 1, g3, g4, g5, g6, g7, fun q => absurd q hs⟩
  · rw [if_neg c]
    by_cases d : S 3 + 1 < T 1
    · rw [if_pos d]; exact lw_wr hs h8
    · rw [if_neg d]; exact lw_tn h0 (by decide) h8
theorem lw_hd {T : Nat → Nat} {T0 m : Nat} {S : Nat → Nat} (h0 : 0 < T0) (hs : S 1 ≠ 0) (h6 : S 6 = 1) (h : lw T0 m S) : lw T0 (m + 1) (aHd T S) := by
  obtain ⟨⟨h1, h2, h3, h4, h5, h6', h7⟩, g1, g2, g3, g4, g5, g6, g7, g8⟩ := id h
  unfold aHd
  by_cases c : 40 ≤ S 8 + 1
  · rw [if_pos c]
    have k1 : lw T0 m (aH1 S) := ⟨⟨h1, h2, h3, h4, h5, h6', h7⟩, Nat.zero_le _, g2, Nat.zero_le _, (by decide : 0 < 40), g5, fun q => (by cases q), fun _ => rfl, fun q => absurd q hs⟩
    have s1 : aH1 S 1 = S 1 := rfl
    have k2 : lw T0 m (aH2 (aSyn S) (aH1 S)) ∧ aH2 (aSyn S) (aH1 S) 1 = S 1 := by
      unfold aH2
      by_cases d : aSyn S = 0
      · rw [if_pos d]; exact ⟨lw_cg k1 (ct_lo _ (by decide)), rfl⟩
      · rw [if_neg d]; exact ⟨k1, rfl⟩
    have e3 : ∀ j, j < 13 ∨ 872 ≤ j → aH3 (aSyn S) (aH2 (aSyn S) (aH1 S)) j = aH2 (aSyn S) (aH1 S) j := by
      intro j hj
      unfold aH3
      rw [ct_lo _ (by decide) j hj, su_n (by omega), su_n (by omega)]
    have k3 := lw_cg k2.1 e3
    have s3 : aH3 (aSyn S) (aH2 (aSyn S) (aH1 S)) 1 ≠ 0 := by rw [e3 1 (by decide), k2.2]; exact hs
    refine lw_cg (S := aH4 T (aSyn S) (aH3 (aSyn S) (aH2 (aSyn S) (aH1 S)))) ?_ (fun j hj => su_n (by omega))
    unfold aH4
    by_cases d : aH3 (aSyn S) (aH2 (aSyn S) (aH1 S)) 1 = 1
    · rw [if_pos d]; exact lw_nr h0 s3 k3
    · rw [if_neg d]; exact lw_sr h0 s3 k3
  · rw [if_neg c]
    exact ⟨⟨h1, Nat.le_succ_of_le h2, Nat.le_succ_of_le h3, h4, h5, Nat.le_succ_of_le h6', Nat.le_succ_of_le h7⟩, g1, g2, g3, Nat.not_le.mp c, g5, g6, fun q => absurd (q.symm.trans h6) (by decide), g8⟩
theorem aDl_lo {T0 sc : Nat} {hd : Nat → Int32} {sy : Nat → Nat → Nat} {S : Nat → Nat} (hT : T0 ≤ 48) : ∀ j, j < 16 ∨ 23 ≤ j → j < 80 ∨ 704 ≤ j → aDl T0 sc hd sy S j = S j := by
  intro j hj hj2
  have h1 : aD1 T0 S j = S j := by
    unfold aD1 aCt
    rw [su_n (by omega)]
    unfold aCp
    rw [if_neg (fun z => by omega), su_n (by omega), su_n (by omega), su_n (by omega), su_n (by omega)]
  unfold aDl
  by_cases c : aFn T0 hd sy (nI (S 11)) (fun i => S (32 + i)) sc 0 = -1
  · rw [if_pos c]
    unfold aCt
    rw [su_n (by omega)]; exact h1
  · rw [if_neg c]; exact h1
theorem lw_ld {T : Nat → Nat} {sc : Nat} {hd : Nat → Int32} {sy : Nat → Nat → Nat} {m b : Nat} {S : Nat → Nat} (h0 : T 0 ≤ 48) (h00 : 0 < T 0) (hs : S 1 ≠ 0) (h6 : S 6 = 0) (h : lw (T 0) m S) : lw (T 0) m (aLd T sc hd sy b S) := by
  obtain ⟨⟨h1, h2, h3, h4, h5, h6', h7⟩, g1, g2, g3, g4, g5, g6, g7, g8⟩ := id h
  have e : ∀ j, (j ≠ 7 ∧ (j < 29 ∨ 80 ≤ j)) → aL2 b S j = S j := fun j hj => aL2_0 b S (by omega) (by omega) (by omega)
  have e7 := aL2_7 b S
  have k : lw (T 0) m (su (su (aL2 b S) 7 0) 6 1) := by
    unfold lw su
    simp only [e 1 (by decide), e 2 (by decide), e 3 (by decide), e 4 (by decide), e 872 (by decide), e 873 (by decide), e 874 (by decide), e 8 (by decide), e 9 (by decide), e 10 (by decide)]
    exact ⟨⟨h1, h2, h3, h4, h5, h6', h7⟩, Nat.le_refl 1, g2, g3, g4, (by omega : 0 < 8 * T 0), fun _ => rfl, fun q => (by cases q), fun q => absurd q hs⟩
  unfold aLd aL3
  rw [e7, e 9 (by decide)]
  by_cases c : 8 * T 0 ≤ S 7 + 1
  · rw [if_pos c]
    by_cases d : S 9 = 0
    · rw [if_pos d]; exact k
    · rw [if_neg d]
      by_cases g : T 5 = 1 ∧ nI (aL2 b S 11) = 1
      · rw [if_pos g]; exact lw_cg k (ct_lo _ (by decide))
      · rw [if_neg g]; exact lw_cg k (fun j hj => aDl_lo h0 j (by omega) (by omega))
  · rw [if_neg c]
    unfold lw
    rw [e 1 (by decide), e 2 (by decide), e 3 (by decide), e 4 (by decide), e 872 (by decide), e 873 (by decide), e 874 (by decide), e 8 (by decide), e 9 (by decide), e 10 (by decide), e 6 (by decide), e7]
    exact ⟨⟨h1, h2, h3, h4, h5, h6', h7⟩, g1, g2, g3, g4, by omega, fun q => absurd (h6.symm.trans q) (by decide), g7, fun q => absurd q hs⟩
theorem lwp1 {T0 m b : Nat} {S : Nat → Nat} (h : lw T0 m S) : lw T0 m (aP1 b S) := by
  have e : ∀ j, (j < 13 ∨ 872 ≤ j) → j ≠ 0 → j ≠ 5 → aP1 b S j = S j := fun j hj h0 h5 => by rw [aP1_at b S (by omega), aPs_at b S (by omega)]
  unfold lw
  rw [e 1 (by decide) (by decide) (by decide), e 2 (by decide) (by decide) (by decide), e 3 (by decide) (by decide) (by decide), e 4 (by decide) (by decide) (by decide), e 873 (by decide) (by decide) (by decide), e 872 (by decide) (by decide) (by decide), e 874 (by decide) (by decide) (by decide), e 6 (by decide) (by decide) (by decide), e 7 (by decide) (by decide) (by decide), e 8 (by decide) (by decide) (by decide), e 9 (by decide) (by decide) (by decide), e 10 (by decide) (by decide) (by decide)]
  exact h
theorem lw_mid {T : Nat → Nat} {sc : Nat} {hd : Nat → Int32} {sy : Nat → Nat → Nat} {m b : Nat} {S : Nat → Nat} (h0 : T 0 ≤ 48) (h00 : 0 < T 0) (h : lw (T 0) m S) : lw (T 0) (m + 1) (aMid T sc hd sy b S) := by
  have e1 : aP1 b S 1 = S 1 := by rw [aP1_at b S (by decide), aPs_at b S (by decide)]
  have e6 : aP1 b S 6 = S 6 := by rw [aP1_at b S (by decide), aPs_at b S (by decide)]
  have g1 := h.2.1
  unfold aMid
  by_cases c : S 1 = 0
  · rw [if_pos c]; exact lw_hu h00 (lwp1 h)
  · rw [if_neg c]
    by_cases d : S 6 = 1
    · rw [if_pos d]; exact lw_hd h00 (by rw [e1]; exact c) (by rw [e6]; exact d) (lwp1 h)
    · rw [if_neg d]; exact lw_up (lw_ld h0 h00 (by rw [e1]; exact c) (by rw [e6]; omega) (lwp1 h)) (by omega)
theorem lw_wt {T : Nat → Nat} {T0 m was : Nat} {S : Nat → Nat} (h : lw T0 m S) (h8 : S 872 + 1 ≤ m) : lw T0 m (aWt T was S) := by
  have h1 : lw T0 m (aW1 was S) := by
    obtain ⟨⟨h1, h2, h3, h4, h5, h6, h7⟩, hx⟩ := h
    refine ⟨⟨h1, h2, h3, h4, h5, ?_, h7⟩, hx⟩
    show (if (S 1 = 2 ↔ was = 2) then S 872 + 1 else 1) ≤ m
    by_cases c : (S 1 = 2 ↔ was = 2)
    · rw [if_pos c]; exact h8
    · rw [if_neg c]; omega
  unfold aWt
  by_cases c : T 4 ≤ aW1 was S 872
  · rw [if_pos c]
    have h2 : lw T0 m (aW2 (aW1 was S)) := by
      unfold aW2
      by_cases d : aW1 was S 1 ≠ 2 ∧ aW1 was S 873 = 0
      · rw [if_pos d]; exact lw_cg h1 (ct_lo _ (by decide))
      · rw [if_neg d]; exact h1
    obtain ⟨⟨h1, h2, h3, h4, h5, h6, h7⟩, hx⟩ := h2
    refine ⟨⟨h1, h2, h3, h4, ?_, h6, h7⟩, hx⟩
    show (if S 1 = 2 then 0 else 1) ≤ 1
    by_cases d : S 1 = 2
    · rw [if_pos d]; decide
    · rw [if_neg d]; decide
  · rw [if_neg c]; exact h1
