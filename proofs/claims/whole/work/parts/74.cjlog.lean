/-! the class's receiver with its log takes a bit -/
theorem h4_fr (T : Nat → Nat) (y : Nat) (U : Nat → Nat) {j : Nat} (h : 776 ≤ j ∧ j < 872) : aH4 T y U j = U j := by
  have tn : ∀ (to : Nat) (U : Nat → Nat), aTn to U j = U j := fun to U => aTn_fr to U (by omega) (by omega) (by omega)
  have ct : ∀ (U : Nat → Nat) (k : Nat), k < 14 → aCt U k j = U j := fun U k hk => su_n (by omega)
  unfold aH4 aNr aSu
  by_cases c : U 1 = 1
  · rw [if_pos c]
    by_cases d : y = 0
    · rw [if_pos d]
      by_cases g : T 2 ≤ U 2 + 1
      · rw [if_pos g, su_n (by omega), su_n (by omega), su_n (by omega), tn, su_n (by omega), su_n (by omega)]
      · rw [if_neg g, su_n (by omega), su_n (by omega)]
    · rw [if_neg d, tn]
  · rw [if_neg c]
    by_cases d : y = 0
    · rw [if_pos d, su_n (by omega), su_n (by omega), su_n (by omega)]
    · rw [if_neg d]
      by_cases g : U 3 + 1 < T 1
      · rw [if_pos g]
        unfold aWr
        by_cases x : (if U 4 = 1 ∧ T 3 = 1 then fnd 40 y else -1) = -1
        · rw [if_pos x, ct _ _ (by decide), su_n (by omega), su_n (by omega), su_n (by omega), su_n (by omega)]
        · rw [if_neg x, aMd_lo _ _ (by omega), ct _ _ (by decide), su_n (by omega), su_n (by omega), su_n (by omega), su_n (by omega)]
      · rw [if_neg g, tn, su_n (by omega)]
/-- which counts are left by a CHECK judged -/
theorem h4_c (T : Nat → Nat) (y : Nat) (U : Nat → Nat) {k : Nat} (hk : k = 3 ∨ k = 8) : aH4 T y U (13 + k) = U (13 + k) := by
  have hk14 : k < 14 := by omega
  have d0 : ∀ j, j ≠ 3 → j ≠ 8 → dl k j = 0 := fun j h1 h2 => if_neg (by omega)
  have t0 : ∀ to s, tnC to s k = 0 := by
    intro to s
    unfold tnC
    rw [d0 7 (by decide) (by decide), d0 4 (by decide) (by decide), d0 5 (by decide) (by decide)]
    by_cases c : to = 2 <;> by_cases d : s = 2 <;> simp [c, d]
  have tn : ∀ (to : Nat) (U : Nat → Nat), aTn to U (13 + k) = U (13 + k) := fun to U => by rw [aTn_c _ _ hk14, t0]; rfl
  have ct : ∀ (U : Nat → Nat) (j : Nat), j ≠ 3 → j ≠ 8 → aCt U j (13 + k) = U (13 + k) := fun U j h1 h2 => by rw [aCt_c _ _ hk14, d0 j h1 h2]; rfl
  unfold aH4 aNr aSu
  by_cases c : U 1 = 1
  · rw [if_pos c]
    by_cases d : y = 0
    · rw [if_pos d]
      by_cases g : T 2 ≤ U 2 + 1
      · rw [if_pos g, su_n (by omega), su_n (by omega), su_n (by omega), tn, su_n (by omega), su_n (by omega)]
      · rw [if_neg g, su_n (by omega), su_n (by omega)]
    · rw [if_neg d, tn]
  · rw [if_neg c]
    by_cases d : y = 0
    · rw [if_pos d, su_n (by omega), su_n (by omega), su_n (by omega)]
    · rw [if_neg d]
      by_cases g : U 3 + 1 < T 1
      · rw [if_pos g]
        unfold aWr
        by_cases x : (if U 4 = 1 ∧ T 3 = 1 then fnd 40 y else -1) = -1
        · rw [if_pos x, ct _ _ (by decide) (by decide), su_n (by omega), su_n (by omega), su_n (by omega), su_n (by omega)]
        · rw [if_neg x, aMd_lo _ _ (by omega), ct _ _ (by decide) (by decide), su_n (by omega), su_n (by omega), su_n (by omega), su_n (by omega)]
      · rw [if_neg g, tn, su_n (by omega)]
theorem hU_log (S : Nat → Nat) {j : Nat} (h : 80 ≤ j ∧ j < 872) (h1 : j ≠ 776 + 3 * (S 21 % 32)) (h2 : j ≠ 776 + 3 * (S 21 % 32) + 1) : aHU S j = S j := by
  have e21 : aH2 (aSyn S) (aH1 S) 21 = S 21 := by
    unfold aH2
    by_cases c : aSyn S = 0
    · rw [if_pos c]; rfl
    · rw [if_neg c]; rfl
  unfold aHU aH3 aCt
  rw [e21, su_n (by omega), su_n h2, su_n h1]
  unfold aH2
  have e1 : aH1 S j = S j := by
    unfold aH1
    rw [su_n (by omega), su_n (by omega), su_n (by omega), su_n (by omega), su_n (by omega), su_n (by omega)]
  by_cases c : aSyn S = 0
  · rw [if_pos c]
    unfold aCt
    rw [su_n (by omega), e1]
  · rw [if_neg c, e1]
theorem hU_p (S : Nat → Nat) : aHU S (776 + 3 * (S 21 % 32)) = S 0 + 4294967256 ∧ aHU S (776 + 3 * (S 21 % 32) + 1) = aSyn S := by
  have e21 : aH2 (aSyn S) (aH1 S) 21 = S 21 := by
    unfold aH2
    by_cases c : aSyn S = 0
    · rw [if_pos c]; rfl
    · rw [if_neg c]; rfl
  have e12 : aH2 (aSyn S) (aH1 S) 12 = S 0 + 4294967256 := by
    unfold aH2
    by_cases c : aSyn S = 0
    · rw [if_pos c]; rfl
    · rw [if_neg c]; rfl
  unfold aHU aH3 aCt
  rw [e21, e12]
  constructor
  · rw [su_n (by omega), su_n (by omega), su_s]
  · rw [su_n (by omega), su_s]
theorem hU_3 (S : Nat → Nat) : aHU S 16 = S 16 ∧ aHU S 20 = S 20 ∧ aHU S 21 = S 21 + 1 := by
  have h1 := aHU_c S (k := 3) (by decide)
  have h2 := aHU_c S (k := 7) (by decide)
  have h3 := aHU_c S (k := 8) (by decide)
  have d1 : dl 3 0 = 0 := rfl
  have d2 : dl 3 8 = 0 := rfl
  have d3 : dl 7 0 = 0 := rfl
  have d4 : dl 7 8 = 0 := rfl
  have d5 : dl 8 0 = 0 := rfl
  have d6 : dl 8 8 = 1 := rfl
  rw [d1, d2] at h1
  rw [d3, d4] at h2
  rw [d5, d6] at h3
  by_cases c : aSyn S = 0
  · rw [if_pos c] at h1 h2 h3
    exact ⟨h1, h2, h3⟩
  · rw [if_neg c] at h1 h2 h3
    exact ⟨h1, h2, h3⟩
theorem judge_16 {n : Nat} (hn : 50 ≤ n) {T : Nat → Nat} {a22 : Nat → Int32} (T0 : Nat) (hT : ∀ k, k < 7 → a22 k = nI (T k)) (tb : T 1 ≤ 15 ∧ T 2 ≤ 15 ∧ T 3 ≤ 1) (S : Nat → Nat) (o11 a12 o13 a14 o a ow : Nat → Int32) (jw : Int64) (h1 : S 1 = 1 ∨ S 1 = 2) (h7 : S 7 = 0) (h8 : 40 ≤ S 8 + 1) (h2 : S 2 + 1 < 2 ^ 31) (h3 : S 3 + 1 < 2 ^ 31) (h4 : S 4 ≤ 1) (h27 : S 27 < 2 ^ 32) (h28 : S 28 < 256) (hO : o 7 = nI (S 1) ∧ o 8 = nI (S 2) ∧ o 9 = nI (S 3) ∧ o 10 = nI (S 4) ∧ o 12 = nI (S 873) ∧ o 13 = nI (S 872) ∧ o 14 = nI (S 874)) (h11 : o 11 = 0) (hc : cC (fun k => S (13 + k)) a) (hV : cV S ow jw) (hg : gT S o11 a12) (hj : gJ S o13 a14) : ∃ o11' a12' o13' a14' o' a', f_X6_judge_16 n a22 o11 a12 o13 a14 o a ow jw (nI (S 0)) = some (o11', a12', o13', a14', o', a') ∧ (gT (aHd T S) o11' a12' ∧ gJ (aHd T S) o13' a14') ∧ cO T0 (aHd T S) o' ∧ cC (fun k => aHd T S (13 + k)) a' := by
  obtain ⟨k1, k2, k3, k4, k5, k6, k7⟩ := hO
  have hm : S 21 % 32 < 32 := Nat.mod_lt _ (by decide)
  have l : ∀ j, (j < 13 ∨ 872 ≤ j) → aHU S j = aH1 S j := fun j hj => aHU_lo S hj
  have hJ : jO (aHU S) (upd (upd (upd (upd o 15 0) 16 (nI (S 27))) 17 0) 18 (nI (S 0) - 40)) := by
    unfold jO
    rw [l 1 (by decide), l 2 (by decide), l 3 (by decide), l 4 (by decide), l 873 (by decide), l 872 (by decide), l 874 (by decide), l 11 (by decide), l 10 (by decide), l 12 (by decide), l 6 (by decide), l 7 (by decide)]
    exact ⟨⟨k1, k2, k3, k4, k5, k6, k7⟩, rfl, h11, rfl, rfl, nI_m40 _, rfl, h7⟩
  have q1 : aHU S 1 = S 1 := l 1 (by decide)
  have hy := aSyn_lt h28
  unfold f_X6_judge_16
  have es : f_X10_syndromeNow_18 ow jw = some (nI (aSyn S)) := by
    unfold f_X10_syndromeNow_18
    rw [hV.1, show (85 : Int32) = nI 85 from rfl, nI_xor, syn_is h28]
    rfl
  have eh : f_X10_headerNow_18 ow jw = some (nI (S 27)) := by
    unfold f_X10_headerNow_18
    rw [hV.2.2, show xul (lN (S 27 * 256 + S 28)) 8 = lN ((S 27 * 256 + S 28) / 2 ^ 8) from xul_is (k := 8) (by omega) (by decide), lN_i, show (S 27 * 256 + S 28) / 2 ^ 8 = S 27 by omega]
  rw [es, eh, Option.bind_some, Option.bind_some, aHd_is T S h8]
  obtain ⟨v1, v2, v3⟩ := hU_3 S
  obtain ⟨v4, v5⟩ := hU_p S
  have hgU : gT (aHU S) o11 a12 := gT_cg hg v2 (fun j h1 h2 => hU_log S (by omega) (by omega) (by omega))
  have jf : ∀ o' : Nat → Int32, o' 18 = nI (S 0 + 4294967256) → ∃ o13' a14', f_X7_add_13 o13 a14 (o' 18) (nI (aSyn S)) (nI (aV (aSyn S) (aH4 T (aSyn S) (aHU S)))) = some (o13', a14') ∧ gJ (su (aH4 T (aSyn S) (aHU S)) (776 + 3 * (S 21 % 32) + 2) (aV (aSyn S) (aH4 T (aSyn S) (aHU S)))) o13' a14' := by
    intro o' ho
    refine gJ_add hj (S 0 + 4294967256) (aSyn S) (aV (aSyn S) (aH4 T (aSyn S) (aHU S))) _ _ _ ho rfl rfl ?_ ?_ ?_ ?_ ?_
    · rw [su_n (by omega), show (21 : Nat) = 13 + 8 from rfl, h4_c T _ _ (by decide)]; exact v3
    · rw [su_n (by omega), h4_fr T _ _ (by omega)]; exact v4
    · rw [su_n (by omega), h4_fr T _ _ (by omega)]; exact v5
    · rw [su_s]
    · intro j g1 g2 g3 g4 g5
      rw [su_n g5, h4_fr T _ _ (by omega), hU_log S (by omega) g3 g4]
  have gf : ∀ o11' a12', gT (aH4 T (aSyn S) (aHU S)) o11' a12' → gT (su (aH4 T (aSyn S) (aHU S)) (776 + 3 * (S 21 % 32) + 2) (aV (aSyn S) (aH4 T (aSyn S) (aHU S)))) o11' a12' := fun o11' a12' h => gT_cg h (su_n (by omega)) (fun j h1 h2 => su_n (by omega))
  have fin : ∀ (o' a' : Nat → Int32) (d : Nat → Nat), cO T0 (aH4 T (aSyn S) (aHU S)) o' → (∀ k, k < 14 → aH4 T (aSyn S) (aHU S) (13 + k) = aHU S (13 + k) + d k) → cC (fun k => S (13 + k) + (if aSyn S = 0 then dl k 0 else 0) + d k) a' → cO T0 (su (aH4 T (aSyn S) (aHU S)) (776 + 3 * (S 21 % 32) + 2) (aV (aSyn S) (aH4 T (aSyn S) (aHU S)))) o' ∧ cC (fun k => su (aH4 T (aSyn S) (aHU S)) (776 + 3 * (S 21 % 32) + 2) (aV (aSyn S) (aH4 T (aSyn S) (aHU S))) (13 + k)) (upd a' 8 (a' 8 + 1)) := by
    intro o' a' d g1 g2 g3
    refine ⟨cO_cg g1 (fun j hj => su_n (by omega)), cC_cg (cC_ct g3 (j := 8) (by decide)) (fun k hk => ?_)⟩
    show su (aH4 T (aSyn S) (aHU S)) (776 + 3 * (S 21 % 32) + 2) (aV (aSyn S) (aH4 T (aSyn S) (aHU S))) (13 + k) = S (13 + k) + (if aSyn S = 0 then dl k 0 else 0) + d k + dl k 8
    rw [su_c _ _ _ (by omega) hk, g2 k hk, aHU_c S hk]
    omega
  by_cases c : aSyn S = 0
  · rw [if_pos (by rw [c]; rfl)]
    obtain ⟨o11', a12', o', a', d, e1, e9, e0, e2, e3, e4⟩ := accept_16 (T := T) T0 (hT 2 (by decide)) tb.2.1 (aHU S) o11 a12 _ a _ (nI (S 0)) (by rw [l 0 (by decide)]; rfl) (by rw [q1]; exact h1) (by rw [l 2 (by decide)]; exact h2) hJ hc hgU
    rw [e1, Option.bind_some]
    obtain ⟨o13', a14', j1, j2⟩ := jf o' (e9.trans (nI_m40 _))
    have ev : nI (aV (aSyn S) (aH4 T (aSyn S) (aHU S))) = 0 := by unfold aV; rw [if_pos c]; rfl
    rw [ev] at j1
    unfold b_X6_judge_16_55
    show ∃ o11' a12' o13' a14' o'' a', Option.bind (f_X7_add_13 o13 a14 (o' 18) (nI (aSyn S)) 0) _ = _ ∧ _
    rw [j1, Option.bind_some]
    refine ⟨_, _, _, _, _, _, rfl, ⟨gf _ _ (by rw [c]; exact e0), j2⟩, fin o' a' d (by rw [c]; exact e2) (by rw [c]; exact e3) (cC_cg e4 (fun k hk => by rw [if_pos c]))⟩
  · rw [if_neg (fun z => c ((nI_eq0 (by omega)).mp z))]
    obtain ⟨o11', a12', o', a', d, e1, e9, e0, e2, e3, e4⟩ := wrong_16 hn (T := T) T0 (hT 1 (by decide)) tb.1 (hT 3 (by decide)) tb.2.2 (aHU S) o11 a12 _ a _ (aSyn S) hy c (nI (S 0)) (by rw [l 0 (by decide)]; rfl) (by rw [q1]; exact h1) (by rw [l 3 (by decide)]; exact h3) (by rw [l 4 (by decide)]; exact h4) (l 10 (by decide)) hJ hc hgU
    rw [e1, Option.bind_some]
    obtain ⟨o13', a14', j1, j2⟩ := jf o' (e9.trans (nI_m40 _))
    unfold b_X6_judge_16_55
    show ∃ o11' a12' o13' a14' o'' a', Option.bind (f_X7_add_13 o13 a14 (o' 18) (nI (aSyn S)) (nI (aV (aSyn S) (aH4 T (aSyn S) (aHU S))))) _ = _ ∧ _
    rw [j1, Option.bind_some]
    refine ⟨_, _, _, _, _, _, rfl, ⟨gf _ _ e0, j2⟩, fin o' a' d e2 e3 (cC_cg e4 (fun k hk => by rw [if_neg c]; rfl))⟩
