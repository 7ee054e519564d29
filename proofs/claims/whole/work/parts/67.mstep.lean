/-! the model takes a bit as the receiver on paper does -/
theorem hb_cg {S S' : Nat → Nat} (h : hb S) (e : ∀ j, 27 ≤ j → j < 704 → S' j = S j) : hb S' := by
  obtain ⟨h1, h2, h3⟩ := h
  unfold hb
  rw [e 27 (by decide) (by decide), e 28 (by decide) (by decide), e 29 (by decide) (by decide), e 30 (by decide) (by decide), e 31 (by decide) (by decide)]
  exact ⟨h1, fun i hi => by rw [e _ (by omega) (by omega)]; exact h2 i hi, fun s i hs hi => by rw [e _ (by omega) (by omega)]; exact h3 s i hs hi⟩
theorem fr_tn (to : Nat) (S : Nat → Nat) : ∀ j, 27 ≤ j → j < 704 → aTn to S j = S j := fun j h1 h2 => aTn_fr to S (by omega) (by omega) (by omega)
theorem fr_ct (S : Nat → Nat) {k : Nat} (hk : k < 14) : ∀ j, 27 ≤ j → j < 704 → aCt S k j = S j := fun j h1 h2 => su_n (by omega)
theorem fr_hu (T S : Nat → Nat) : ∀ j, 27 ≤ j → j < 704 → aHu T S j = S j := by
  intro j h1 h2
  unfold aHu
  by_cases c : (S 874 + 1) % T 6 = 0 ∧ 40 ≤ S 5 ∧ aSyn S = 0
  · rw [if_pos c, su_n (by omega), fr_tn _ _ j h1 h2, su_n (by omega)]
  · rw [if_neg c, su_n (by omega)]
theorem fr_nr (T : Nat → Nat) (y : Nat) (S : Nat → Nat) : ∀ j, 27 ≤ j → j < 704 → aNr T y S j = S j := by
  intro j h1 h2
  unfold aNr
  by_cases c : y = 0
  · rw [if_pos c]
    by_cases d : T 2 ≤ S 2 + 1
    · rw [if_pos d, su_n (by omega), su_n (by omega), su_n (by omega), fr_tn _ _ j h1 h2, su_n (by omega), su_n (by omega)]
    · rw [if_neg d, su_n (by omega), su_n (by omega)]
  · rw [if_neg c, fr_tn _ _ j h1 h2]
theorem fr_wr (b : Int32) (S : Nat → Nat) : ∀ j, 27 ≤ j → j < 704 → aWr b S j = S j := by
  intro j h1 h2
  unfold aWr
  by_cases c : b = -1
  · rw [if_pos c, fr_ct _ (by decide) j h1 h2, su_n (by omega), su_n (by omega), su_n (by omega)]
  · rw [if_neg c, aMd_lo _ _ (by omega), fr_ct _ (by decide) j h1 h2, su_n (by omega), su_n (by omega), su_n (by omega)]
theorem fr_sr (T : Nat → Nat) (y : Nat) (S : Nat → Nat) : ∀ j, 27 ≤ j → j < 704 → aSu T y S j = S j := by
  intro j h1 h2
  unfold aSu
  by_cases c : y = 0
  · rw [if_pos c, su_n (by omega), su_n (by omega), su_n (by omega)]
  · rw [if_neg c]
    by_cases d : S 3 + 1 < T 1
    · rw [if_pos d, fr_wr _ _ j h1 h2, su_n (by omega)]
    · rw [if_neg d, fr_tn _ _ j h1 h2, su_n (by omega)]
theorem fr_hd (T S : Nat → Nat) : ∀ j, 27 ≤ j → j < 704 → aHd T S j = S j := by
  intro j h1 h2
  unfold aHd
  by_cases c : 40 ≤ S 8 + 1
  · rw [if_pos c, su_n (by omega)]
    have k1 : aH1 S j = S j := by
      unfold aH1
      rw [su_n (by omega), su_n (by omega), su_n (by omega), su_n (by omega), su_n (by omega), su_n (by omega)]
    have k2 : aH2 (aSyn S) (aH1 S) j = S j := by
      unfold aH2
      by_cases d : aSyn S = 0
      · rw [if_pos d, fr_ct _ (by decide) j h1 h2, k1]
      · rw [if_neg d, k1]
    have k3 : aH3 (aSyn S) (aH2 (aSyn S) (aH1 S)) j = S j := by
      unfold aH3
      rw [fr_ct _ (by decide) j h1 h2, su_n (by omega), su_n (by omega), k2]
    unfold aH4
    by_cases d : aH3 (aSyn S) (aH2 (aSyn S) (aH1 S)) 1 = 1
    · rw [if_pos d, fr_nr _ _ _ j h1 h2, k3]
    · rw [if_neg d, fr_sr _ _ _ j h1 h2, k3]
  · rw [if_neg c, su_n (by omega)]
theorem fr_wt (T : Nat → Nat) (was : Nat) (S : Nat → Nat) : ∀ j, 27 ≤ j → j < 704 → aWt T was S j = S j := by
  intro j h1 h2
  have k1 : aW1 was S j = S j := su_n (by omega)
  unfold aWt
  by_cases c : T 4 ≤ aW1 was S 872
  · rw [if_pos c, su_n (by omega)]
    unfold aW2
    by_cases d : aW1 was S 1 ≠ 2 ∧ aW1 was S 873 = 0
    · rw [if_pos d, fr_ct _ (by decide) j h1 h2, k1]
    · rw [if_neg d, k1]
  · rw [if_neg c, k1]
theorem hb_l2 {b : Nat} {S : Nat → Nat} (hbit : b < 2) (h7 : S 7 < 8 * 48) (h : hb S) : hb (aL2 b S) := by
  obtain ⟨⟨h1, h2, h3, h4, h5⟩, h6, h8⟩ := h
  have e : ∀ j, 29 ≤ j → j ≤ 31 → aL2 b S j = aL1 b S j := by
    intro j g1 g2
    unfold aL2
    by_cases c : (S 7 + 1) % 8 = 0
    · rw [if_pos c, su_n (by omega)]
    · rw [if_neg c]
  refine ⟨⟨?_, ?_, ?_, ?_, ?_⟩, aL2_b hbit S h6, fun s i hs hi => ?_⟩
  · rw [aL2_0 b S (by decide) (by decide) h7]; exact h1
  · rw [aL2_0 b S (by decide) (by decide) h7]; exact h2
  · rw [e 29 (by decide) (by decide)]; exact Nat.mod_lt _ (by decide)
  · rw [e 30 (by decide) (by decide)]; exact Nat.mod_lt _ (by decide)
  · rw [e 31 (by decide) (by decide)]; exact Nat.mod_lt _ (by decide)
  · rw [aL2_0 b S (by omega) (by omega) h7]; exact h8 s i hs hi
theorem hb_dl {T0 sc : Nat} {hd : Nat → Int32} {sy : Nat → Nat → Nat} {S : Nat → Nat} (hT : T0 ≤ 48) (h : hb S) : hb (aDl T0 sc hd sy S) := by
  obtain ⟨h1, h6, h8⟩ := h
  have e : ∀ j, 27 ≤ j → j < 80 → aDl T0 sc hd sy S j = S j := fun j g1 g2 => aDl_lo hT j (by omega) (by omega)
  refine ⟨?_, fun i hi => ?_, fun s i hs hi => ?_⟩
  · rw [e 27 (by decide) (by decide), e 28 (by decide) (by decide), e 29 (by decide) (by decide), e 30 (by decide) (by decide), e 31 (by decide) (by decide)]; exact h1
  · rw [e _ (by omega) (by omega)]; exact h6 i hi
  · have hm : S 16 % 12 < 12 := Nat.mod_lt _ (by decide)
    have k1 : aD1 T0 S (80 + 52 * s + 4 + i) < 256 := by
      unfold aD1 aCt
      rw [su_n (by omega)]
      unfold aCp
      by_cases c : 80 + 52 * (S 16 % 12) + 4 ≤ 80 + 52 * s + 4 + i ∧ 80 + 52 * s + 4 + i < 80 + 52 * (S 16 % 12) + 4 + T0
      · rw [if_pos c, su_n (by omega), su_n (by omega), su_n (by omega), su_n (by omega)]
        exact h6 _ (by omega)
      · rw [if_neg c, su_n (by omega), su_n (by omega), su_n (by omega), su_n (by omega)]
        exact h8 s i hs hi
    unfold aDl
    by_cases c : aFn T0 hd sy (nI (S 11)) (fun i => S (32 + i)) sc 0 = -1
    · rw [if_pos c]
      unfold aCt
      rw [su_n (by omega)]; exact k1
    · rw [if_neg c]; exact k1
theorem hb_l3 {T : Nat → Nat} {sc : Nat} {hd : Nat → Int32} {sy : Nat → Nat → Nat} {S : Nat → Nat} (hT : T 0 ≤ 48) (h : hb S) : hb (aL3 T sc hd sy S) := by
  have h1 : hb (su (su S 7 0) 6 1) := hb_cg h (fun j g1 g2 => by rw [su_n (by omega), su_n (by omega)])
  unfold aL3
  by_cases c : 8 * T 0 ≤ S 7
  · rw [if_pos c]
    by_cases d : S 9 = 0
    · rw [if_pos d]; exact h1
    · rw [if_neg d]
      by_cases g : T 5 = 1 ∧ nI (S 11) = 1
      · rw [if_pos g]; exact hb_cg h1 (fr_ct _ (by decide))
      · rw [if_neg g]; exact hb_dl hT h1
  · rw [if_neg c]; exact h
theorem hb_p1 {b : Nat} {S : Nat → Nat} (h : hb S) : hb (aP1 b S) := by
  obtain ⟨⟨h1, h2, h3, h4, h5⟩, h6, h8⟩ := h
  have e : ∀ j, 29 ≤ j → aP1 b S j = S j := fun j hj => by rw [aP1_at b S (by omega), aPs_at b S (by omega)]
  refine ⟨⟨?_, ?_, ?_, ?_, ?_⟩, fun i hi => ?_, fun s i hs hi => ?_⟩
  · rw [aP1_at b S (by decide)]; exact Nat.mod_lt _ (by decide)
  · rw [aP1_at b S (by decide)]; exact Nat.mod_lt _ (by decide)
  · rw [e _ (by decide)]; exact h3
  · rw [e _ (by decide)]; exact h4
  · rw [e _ (by decide)]; exact h5
  · rw [e _ (by omega)]; exact h6 i hi
  · rw [e _ (by omega)]; exact h8 s i hs hi
theorem hb_st {T : Nat → Nat} {sc : Nat} {hd : Nat → Int32} {sy : Nat → Nat → Nat} {b : Nat} {S : Nat → Nat} (hT : T 0 ≤ 48) (hbit : b < 2) (h7 : S 7 < 8 * T 0) (h : hb S) : hb (aSt T sc hd sy b S) := by
  unfold aSt
  refine hb_cg ?_ (fr_wt T (S 1) _)
  have h1 := hb_p1 (b := b) h
  have e7 : aP1 b S 7 = S 7 := by rw [aP1_at b S (by decide), aPs_at b S (by decide)]
  unfold aMid
  by_cases c : S 1 = 0
  · rw [if_pos c]; exact hb_cg h1 (fr_hu T _)
  · rw [if_neg c]
    by_cases d : S 6 = 1
    · rw [if_pos d]; exact hb_cg h1 (fr_hd T _)
    · rw [if_neg d]; exact hb_l3 hT (hb_l2 hbit (by omega) h1)
/-- 5 and 0: one more -/
theorem mid_05 {T : Nat → Nat} {sc : Nat} {hd : Nat → Int32} {sy : Nat → Nat → Nat} {b : Nat} {S : Nat → Nat} (hT : T 0 ≤ 48) (h7 : S 7 < 8 * T 0) {j : Nat} (hj : j = 0 ∨ j = 5 ∨ j = 872 ∨ j = 873) : aMid T sc hd sy b S j = aPs b S j := by
  have e : aP1 b S j = aPs b S j := aP1_at b S (by omega)
  have e7 : aP1 b S 7 = S 7 := by rw [aP1_at b S (by decide), aPs_at b S (by decide)]
  have ct : ∀ (U : Nat → Nat) (k : Nat), k < 14 → aCt U k j = U j := fun U k hk => su_n (by omega)
  have tn : ∀ (to : Nat) (U : Nat → Nat), aTn to U j = U j := fun to U => aTn_fr to U (by omega) (by omega) (by omega)
  rw [← e]
  generalize hU : aP1 b S = U
  rw [hU] at e7
  unfold aMid
  rw [hU]
  by_cases c : S 1 = 0
  · rw [if_pos c]
    unfold aHu
    by_cases d : (U 874 + 1) % T 6 = 0 ∧ 40 ≤ U 5 ∧ aSyn U = 0
    · rw [if_pos d, su_n (by omega), tn, su_n (by omega)]
    · rw [if_neg d, su_n (by omega)]
  · rw [if_neg c]
    by_cases d : S 6 = 1
    · rw [if_pos d]
      unfold aHd
      by_cases g : 40 ≤ U 8 + 1
      · rw [if_pos g, su_n (by omega)]
        have k1 : aH1 U j = U j := by
          unfold aH1
          rw [su_n (by omega), su_n (by omega), su_n (by omega), su_n (by omega), su_n (by omega), su_n (by omega)]
        have k2 : aH2 (aSyn U) (aH1 U) j = U j := by
          unfold aH2
          by_cases d : aSyn U = 0
          · rw [if_pos d, ct _ _ (by decide), k1]
          · rw [if_neg d, k1]
        have k3 : aH3 (aSyn U) (aH2 (aSyn U) (aH1 U)) j = U j := by
          unfold aH3
          rw [ct _ _ (by decide), su_n (by omega), su_n (by omega), k2]
        unfold aH4
        by_cases q : aH3 (aSyn U) (aH2 (aSyn U) (aH1 U)) 1 = 1
        · rw [if_pos q]
          unfold aNr
          by_cases c : aSyn U = 0
          · rw [if_pos c]
            by_cases d : T 2 ≤ aH3 (aSyn U) (aH2 (aSyn U) (aH1 U)) 2 + 1
            · rw [if_pos d, su_n (by omega), su_n (by omega), su_n (by omega), tn, su_n (by omega), su_n (by omega), k3]
            · rw [if_neg d, su_n (by omega), su_n (by omega), k3]
          · rw [if_neg c, tn, k3]
        · rw [if_neg q]
          unfold aSu
          by_cases c : aSyn U = 0
          · rw [if_pos c, su_n (by omega), su_n (by omega), su_n (by omega), k3]
          · rw [if_neg c]
            by_cases d : aH3 (aSyn U) (aH2 (aSyn U) (aH1 U)) 3 + 1 < T 1
            · rw [if_pos d]
              unfold aWr
              by_cases x : (if aH3 (aSyn U) (aH2 (aSyn U) (aH1 U)) 4 = 1 ∧ T 3 = 1 then fnd 40 (aSyn U) else -1) = -1
              · rw [if_pos x, ct _ _ (by decide), su_n (by omega), su_n (by omega), su_n (by omega), su_n (by omega), k3]
              · rw [if_neg x, aMd_lo _ _ (by omega), ct _ _ (by decide), su_n (by omega), su_n (by omega), su_n (by omega), su_n (by omega), k3]
            · rw [if_neg d, tn, su_n (by omega), k3]
      · rw [if_neg g, su_n (by omega)]
    · rw [if_neg d]
      have e2 : aL2 b U j = U j := aL2_0 b U (by omega) (by omega) (by omega)
      unfold aLd aL3
      by_cases g : 8 * T 0 ≤ aL2 b U 7
      · rw [if_pos g]
        by_cases q : aL2 b U 9 = 0
        · rw [if_pos q, su_n (by omega), su_n (by omega), e2]
        · rw [if_neg q]
          by_cases x : T 5 = 1 ∧ nI (aL2 b U 11) = 1
          · rw [if_pos x, ct _ _ (by decide), su_n (by omega), su_n (by omega), e2]
          · rw [if_neg x, aDl_lo hT j (by omega) (by omega), su_n (by omega), su_n (by omega), e2]
      · rw [if_neg g, e2]
theorem wt_05 {T : Nat → Nat} {was : Nat} {S : Nat → Nat} {j : Nat} (hj : j < 13) : aWt T was S j = S j := by
  have k1 : aW1 was S j = S j := su_n (by omega)
  unfold aWt
  by_cases c : T 4 ≤ aW1 was S 872
  · rw [if_pos c, su_n (by omega)]
    unfold aW2
    by_cases d : aW1 was S 1 ≠ 2 ∧ aW1 was S 873 = 0
    · rw [if_pos d, aCt_lo _ _ hj, k1]
    · rw [if_neg d, k1]
  · rw [if_neg c, k1]
theorem aSt_5 {T : Nat → Nat} {sc : Nat} {hd : Nat → Int32} {sy : Nat → Nat → Nat} {b : Nat} {S : Nat → Nat} (hT : T 0 ≤ 48) (h7 : S 7 < 8 * T 0) : aSt T sc hd sy b S 5 = S 5 + 1 := by
  unfold aSt
  rw [wt_05 (by decide), mid_05 hT h7 (by decide)]
  rfl
theorem aSt_0 {T : Nat → Nat} {sc : Nat} {hd : Nat → Int32} {sy : Nat → Nat → Nat} {b : Nat} {S : Nat → Nat} (hT : T 0 ≤ 48) (h7 : S 7 < 8 * T 0) : aSt T sc hd sy b S 0 = S 0 + 1 := by
  unfold aSt
  rw [wt_05 (by decide), mid_05 hT h7 (by decide)]
  rfl
theorem aW_st {T : Nat → Nat} {sc : Nat} {hd : Nat → Int32} {sy : Nat → Nat → Nat} {b B : Nat} {S : Nat → Nat} (h0 : 0 < T 0) (hT : T 0 ≤ 48) (hbit : b < 2) (h : aW (T 0) B S) : aW (T 0) (B + 1) (aSt T sc hd sy b S) := by
  obtain ⟨h1, h2, h3, h4⟩ := h
  have h7 := h1.2.2.2.2.2.1
  have e5 := aSt_5 (sc := sc) (hd := hd) (sy := sy) (b := b) hT h7
  refine ⟨?_, by rw [e5]; omega, hb_st hT hbit h7 h3, ?_⟩
  · rw [e5]
    unfold aSt
    refine lw_wt (lw_mid hT h0 h1) ?_
    rw [mid_05 hT h7 (by decide), aPs_at b S (by decide)]
    have := h1.1.2.2.2.2.2.1
    omega
  · rw [e5]
    unfold aSt
    exact bC_up (bC_wt (bC_mid h4)) (by omega)
theorem m_one {n sc hs : Nat} (hn : 80 ≤ n) {T : Nat → Nat} {a1 a45 : Nat → Int32} (hT : iT T a1 a45) {o4 o44 a6 a7 a48 a49 : Nat → Int32} {j5 : Int64} {hd : Nat → Int32} {sy : Nat → Nat → Nat} (hS : iS (T 0) sc hs hd sy o4 j5 a6 a7 o44 a49) (R : Nat → Nat) (a53 a54 : Nat → Int32) {b B : Nat} (hbit : b < 2) (hB : 8 * B + 100 < 2 ^ 31) (hW : aW (T 0) B R) (h0 : R 0 < 9600) (ha : a48 (R 0) = nI b) : f_X12_takesOne_44 n o44 a45 a48 a49 (sn R) a53 a54 = some (sn (aSt T sc hd sy b R), aSe (o44 15) 1 b R a53, aSe (o44 15) 2 b R a54) := by
  obtain ⟨w1, w2, w3, w4⟩ := hW
  have t0 := hT.2.1
  have h7 := w1.2.2.2.2.2.1
  have q1 := w1.1.1
  have g1 : nI (R 27) <<< (1 &&& 31) ||| nI (R 28) >>> (7 &&& 31) = nI ((2 * R 27 + R 28 / 128) % 2 ^ 32) := by
    rw [nI_shr7 w3.1.2.1, nI_shor (by have := w3.1.2.1; omega), nI_mod]
  have g2 : (nI (R 28) <<< (1 &&& 31) ||| nI b) &&& 255 = nI ((2 * R 28 + b) % 256) := by
    rw [nI_shor hbit, nI_and8]
  have lowp : ∀ j, (j < 13 ∨ 27 ≤ j) → (j ≠ 0 ∧ j ≠ 27 ∧ j ≠ 28 ∧ j ≠ 5) → aP1 b R j = R j := fun j h1 h2 => by rw [aP1_at b R h1, aPs_at b R h2]
  have cnt : ∀ k, k < 14 → aP1 b R (13 + k) < 2 ^ 31 := by
    intro k hk
    have := bC_p1 (b := b) w4 k hk
    omega
  have hbp := hb_p1 (b := b) w3
  have lwp := lwp1 (b := b) w1
  have tail : ∀ (U : Nat → Nat) (a53 a54 : Nat → Int32), U = aMid T sc hd sy b R → b_X12_takesOne_44_147 n o44 a45 a48 a49 (sn U) a53 a54 (nI (R 1)) = some (sn (aSt T sc hd sy b R), a53, a54) := by
    intro U a53 a54 hU
    subst hU
    have m1 := (lw_mid (sc := sc) (hd := hd) (sy := sy) (b := b) t0.2 (by omega) w1).1
    refine m_watch hT o44 a48 a49 (aMid T sc hd sy b R) a53 a54 (R 1) q1 m1.1 ?_ m1.2.2.2.2.1
    have := m1.2.2.2.2.2.1
    omega
  have body : ∀ (k : Nat) (t : Int32), t = nI k → k = aKd (R 1) → b_X12_takesOne_44_110 n o44 a45 a48 a49 (sn (aPs b R)) a53 a54 (nI b) (nI (R 1)) t = some (sn (aSt T sc hd sy b R), aSe (o44 15) 1 b R a53, aSe (o44 15) 2 b R a54) := by
    intro k t ht hk
    unfold b_X12_takesOne_44_110
    rw [m_cnt o44 _ k t ht (by rw [hk]; exact aKd_lt _), Option.bind_some, hk]
    have e1 : aCt (aPs b R) (aKd (R 1)) = aP1 b R := rfl
    rw [e1]
    by_cases c : R 1 = 0
    · rw [if_pos (by rw [c]; rfl), m_hunts (by omega) hT o44 _ (by rw [lowp 1 (by decide) (by decide)]; exact q1) (by rw [aP1_at b R (by decide)]; show R 5 + 1 < 2 ^ 31; omega) (cnt 7 (by decide)) (by rw [lowp 874 (by decide) (by decide)]; have := w1.1.2.2.2.2.2.2; omega) hbp.1.1 hbp.1.2.1, Option.bind_some, tail _ _ _ (by unfold aMid; rw [if_pos c])]
      unfold aSe
      rw [if_neg (fun z => z.2.1 c), if_neg (fun z => z.2.1 c)]
    · rw [if_neg (fun z => c ((nI_eq0 (by omega)).mp z)), sn_ap, lowp 6 (by decide) (by decide)]
      have r6 := w1.2.1
      by_cases d : R 6 = 1
      · rw [if_pos (by rw [d]; rfl), m_head (by omega) hT o44 _ lwp.1.1 lwp.1.2.2.2.1 (by have := lwp.1.2.1; omega) (by have := lwp.1.2.2.1; omega) lwp.2.2.2.2.1 (cnt 7 (by decide)) (cnt 8 (by decide)) hbp.1.1 hbp.1.2.1, Option.bind_some, tail _ _ _ (by unfold aMid; rw [if_neg c, if_pos d])]
        unfold aSe
        rw [if_neg (fun z => by have := z.2.2; omega), if_neg (fun z => by have := z.2.2; omega)]
      · rw [if_neg (fun z => d ((nI_eq1 (by omega)).mp z)), m_load hn hT hS (aP1 b R) a53 a54 hbit (by rw [aP1_at b R (by decide)]; show 0 < R 0 + 1 ∧ R 0 + 1 ≤ 9600; omega) lwp.2.2.2.2.2.1 lwp.2.2.1 (cnt 3 (by decide)) hbp.1.2.2.1 hbp.1.2.2.2.1 hbp.2.1, Option.bind_some, tail _ _ _ (by unfold aMid; rw [if_neg c, if_neg d])]
        have e6 : R 6 = 0 := by omega
        have ep : aPn b (aP1 b R) = aPn b R := by unfold aPn; rw [lowp 29 (by decide) (by decide)]
        have e0 : aP1 b R 0 - 1 = R 0 := by rw [aP1_at b R (by decide)]; show R 0 + 1 - 1 = R 0; omega
        have el : aPl b R = aPn b R + 1 := by unfold aPl; rw [if_pos ⟨c, e6⟩]
        have es : ∀ (w : Int32) (a : Nat → Int32), aSee (o44 15) w b (aP1 b R) a = aSe (o44 15) w b R a := by
          intro w a
          unfold aSee aSe
          rw [ep, e0, el]
          by_cases q : o44 15 = w
          · rw [if_pos q, if_pos ⟨q, c, e6⟩]
          · rw [if_neg q, if_neg (fun z => q z.1)]
        rw [es, es]
  unfold f_X12_takesOne_44
  simp only [sn_ap, nI_1]
  rw [xin_t h0 (by decide), cond_true, nI_clamp (by omega), ha]
  simp only [g1, g2, sn_su]
  have ep : su (su (su (su R 0 (R 0 + 1)) 27 ((2 * R 27 + R 28 / 128) % 2 ^ 32)) 28 ((2 * R 28 + b) % 256)) 5 (R 5 + 1) = aPs b R := rfl
  rw [ep]
  by_cases c : R 1 = 0
  · rw [if_pos (by rw [c]; rfl), body 6 6 rfl (by unfold aKd; rw [if_pos c])]
  · rw [if_neg (fun z => c ((nI_eq0 (by omega)).mp z))]
    by_cases d : R 1 = 1
    · rw [if_pos (by rw [d]; rfl), body 12 12 rfl (by unfold aKd; rw [if_neg c, if_pos d])]
    · rw [if_neg (fun z => d ((nI_eq1 (by omega)).mp z)), body 13 13 rfl (by unfold aKd; rw [if_neg c, if_neg d])]
