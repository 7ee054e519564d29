/-! the class's receiver on paper: a HEADER and CHECK -/
theorem cO_cg {T0 : Nat} {S S' : Nat → Nat} {o : Nat → Int32} (h : cO T0 S o) (e : ∀ j, j < 13 ∨ 872 ≤ j → S' j = S j) : cO T0 S' o := by
  unfold cO
  rw [e 1 (by decide), e 2 (by decide), e 3 (by decide), e 4 (by decide), e 873 (by decide), e 872 (by decide), e 874 (by decide), e 6 (by decide), e 7 (by decide), e 8 (by decide), e 9 (by decide), e 10 (by decide), e 11 (by decide), e 12 (by decide)]
  exact h
/-- the class's numbers as a CHECK is judged -/
def jO (U : Nat → Nat) (o : Nat → Int32) : Prop := (o 7 = nI (U 1) ∧ o 8 = nI (U 2) ∧ o 9 = nI (U 3) ∧ o 10 = nI (U 4) ∧ o 12 = nI (U 873) ∧ o 13 = nI (U 872) ∧ o 14 = nI (U 874)) ∧ o 15 = 0 ∧ o 11 = 0 ∧ o 16 = nI (U 11) ∧ o 17 = nI (U 10) ∧ o 18 = nI (U 12) ∧ U 6 = 0 ∧ U 7 = 0
theorem accept_21 {T : Nat → Nat} {a22 : Nat → Int32} (T0 : Nat) (t2 : a22 2 = nI (T 2)) (t2b : T 2 ≤ 15) (U : Nat → Nat) (o a : Nat → Int32) (c : Nat → Nat) (p : Int32) (h1 : U 1 = 1 ∨ U 1 = 2) (h2 : U 2 + 1 < 2 ^ 31) (hO : jO U o) (hc : cC c a) : ∃ (o' a' : Nat → Int32) (d : Nat → Nat), f_X6_acceptRight_21 o a22 a p = some (0, o', a') ∧ cO T0 (aH4 T 0 U) o' ∧ (∀ k, k < 14 → aH4 T 0 U (13 + k) = U (13 + k) + d k) ∧ cC (fun k => c k + dl k 0 + d k) a' := by
  obtain ⟨⟨k1, k2, k3, k4, k5, k6, k7⟩, k8, k9, k10, k11, k12, k13, k14⟩ := hO
  have hc1 := cC_ct hc (j := 0) (by decide)
  unfold f_X6_acceptRight_21
  rw [k1, k2, nI_1, t2]
  rcases h1 with h1 | h1
  · rw [if_pos (by rw [h1]; rfl)]
    have e4 : aH4 T 0 U = aNr T 0 U := by unfold aH4; rw [if_pos h1]
    rw [e4]
    unfold aNr
    rw [if_pos rfl]
    by_cases g : T 2 ≤ U 2 + 1
    · rw [if_neg (nI_nlt g h2), if_pos g]
      obtain ⟨a', e1, e2⟩ := become_21 (upd o 8 (nI (U 2 + 1))) _ _ 1 2 2 p rfl (by decide) (by decide) (show o 7 = nI 1 by rw [k1, h1]) hc1
      rw [e1, Option.bind_some]
      unfold b_X6_acceptRight_21_47
      rw [if_pos (show bO 2 (upd o 8 (nI (U 2 + 1))) 7 = 2 from rfl)]
      refine ⟨_, _, tnC 2 1, rfl, ?_, ?_, e2⟩
      · refine ⟨⟨rfl, ?_, rfl, rfl, ?_, ?_, rfl⟩, fun _ => ⟨rfl, rfl, fun _ => ⟨?_, ?_, ?_⟩⟩, fun q => (by cases q)⟩
        · rw [su_n (by decide), su_n (by decide), su_n (by decide), aTn_fr _ _ (by decide) (by decide) (by decide)]; rfl
        · rw [su_n (by decide), su_n (by decide), su_n (by decide), aTn_fr _ _ (by decide) (by decide) (by decide)]; exact k5
        · rw [su_n (by decide), su_n (by decide), su_n (by decide), aTn_fr _ _ (by decide) (by decide) (by decide)]; exact k6
        · rw [su_n (by decide), su_n (by decide), su_n (by decide), aTn_fr _ _ (by decide) (by decide) (by decide)]; exact k10
        · rw [su_n (by decide), su_n (by decide), su_n (by decide), aTn_fr _ _ (by decide) (by decide) (by decide)]; exact k11
        · rw [su_n (by decide), su_n (by decide), su_n (by decide), aTn_fr _ _ (by decide) (by decide) (by decide)]; exact k12
      · intro k hk
        rw [su_c _ _ _ (by decide) hk, su_c _ _ _ (by decide) hk, su_c _ _ _ (by decide) hk, aTn_c _ _ hk, su_c _ _ _ (by decide) hk, su_c _ _ _ (by decide) hk, show su (su U 9 0) 2 (U 2 + 1) 1 = 1 from h1]
    · rw [if_pos (nI_lt (by omega) (by omega)), if_neg g]
      unfold b_X6_acceptRight_21_47
      rw [if_neg (show ¬ upd o 8 (nI (U 2 + 1)) 7 = 2 by show ¬ o 7 = 2; rw [k1, h1]; decide)]
      refine ⟨_, _, fun _ => 0, rfl, ?_, ?_, hc1⟩
      · refine ⟨⟨k1, rfl, k3, k4, k5, k6, k7⟩, fun _ => ⟨?_, k9, fun q => (by cases q)⟩, fun q => ?_⟩
        · show o 15 = nI (U 7)
          rw [k8, k14]; rfl
        · have q' : U 6 = 1 := q
          rw [k13] at q'
          cases q'
      · intro k hk
        rw [su_c _ _ _ (by decide) hk, su_c _ _ _ (by decide) hk]
        rfl
  · rw [if_neg (by rw [h1]; decide)]
    have e4 : aH4 T 0 U = aSu T 0 U := by unfold aH4; rw [if_neg (by omega)]
    rw [e4]
    unfold aSu
    rw [if_pos rfl]
    unfold b_X6_acceptRight_21_47
    rw [if_pos (by rw [k1, h1]; rfl)]
    refine ⟨_, _, fun _ => 0, rfl, ?_, ?_, hc1⟩
    · refine ⟨⟨k1, k2, rfl, rfl, k5, k6, k7⟩, fun _ => ⟨?_, rfl, fun _ => ⟨k10, k11, k12⟩⟩, fun q => ?_⟩
      · show o 15 = nI (U 7)
        rw [k8, k14]; rfl
      · have q' : U 6 = 1 := q
        rw [k13] at q'
        cases q'
    · intro k hk
      rw [su_c _ _ _ (by decide) hk, su_c _ _ _ (by decide) hk, su_c _ _ _ (by decide) hk]
      rfl
theorem aTn_10 (to : Nat) (S : Nat → Nat) : aTn to S 10 = S 10 := aTn_fr _ _ (by decide) (by decide) (by decide)
theorem mendH (x b : Int32) (hb : b = -1 ∨ 0 ≤ b) (hb2 : ¬ b = -1) : f_X1_mendedHeader x b = some (if 0 ≤ b ∧ b ≤ 31 then x ^^^ (1 <<< ((31 - b) &&& 31)) else x) := by
  have h0 : 0 ≤ b := by
    rcases hb with h | h
    · exact absurd h hb2
    · exact h
  obtain ⟨m, hm, rfl⟩ := nI_of (Int32.not_lt.mpr h0)
  unfold f_X1_mendedHeader
  rw [if_neg (nI_pos hm)]
  by_cases c : 32 ≤ m
  · rw [if_pos (show (32 : Int32) ≤ nI m from nI_le (a := 32) c hm), if_neg (fun z => absurd ((nI_leI (a := m) (b := 31) hm (by decide)).mp z.2) (by omega))]
  · rw [if_neg (show ¬ (32 : Int32) ≤ nI m from nI_ge (b := 32) (by omega) (by decide)), if_pos ⟨h0, nI_le (b := 31) (by omega) (by decide)⟩]
theorem wrong83_21 {n : Nat} (a22 : Nat → Int32) (T0 : Nat) (U : Nat → Nat) (o a : Nat → Int32) (c : Nat → Nat) (b : Int32) (hb : b = -1 ∨ 0 ≤ b) (h1 : U 1 = 2) (hO : jO U o) (hc : cC c a) : ∃ (o' a' : Nat → Int32) (d : Nat → Nat), b_X6_faceWrong_21_83 n o a22 a b = some (if b = -1 then 2 else 1, o', a') ∧ cO T0 (aWr b U) o' ∧ (∀ k, k < 14 → aWr b U (13 + k) = U (13 + k) + d k) ∧ cC (fun k => c k + d k) a' := by
  obtain ⟨⟨k1, k2, k3, k4, k5, k6, k7⟩, k8, k9, k10, k11, k12, k13, k14⟩ := hO
  unfold b_X6_faceWrong_21_83
  by_cases g : b = -1
  · rw [if_pos g, if_pos g]
    have e : aWr b U = aCt (su (su (su U 4 0) 9 0) 10 0) 2 := by unfold aWr; rw [if_pos g]
    rw [e]
    refine ⟨_, _, fun k => dl k 2, rfl, ?_, ?_, cC_ct hc (j := 2) (by decide)⟩
    · refine ⟨⟨k1, k2, k3, rfl, k5, k6, k7⟩, fun _ => ⟨?_, k9, fun q => (by cases q)⟩, fun q => ?_⟩
      · show o 15 = nI (U 7)
        rw [k8, k14]; rfl
      · have q' : U 6 = 1 := q
        rw [k13] at q'
        cases q'
    · intro k hk
      rw [aCt_c _ _ hk, su_c _ _ _ (by decide) hk, su_c _ _ _ (by decide) hk, su_c _ _ _ (by decide) hk]
  · rw [if_neg g, if_neg g, mendH _ _ hb g, Option.bind_some]
    have e : aWr b U = aMd b (aCt (su (su (su U 4 0) 9 1) 10 1) 1) := by unfold aWr; rw [if_neg g]
    rw [e]
    refine ⟨_, _, fun k => dl k 1, rfl, ?_, ?_, cC_ct hc (j := 1) (by decide)⟩
    · have lo : ∀ j, j ≠ 11 → aMd b (aCt (su (su (su U 4 0) 9 1) 10 1) 1) j = aCt (su (su (su U 4 0) 9 1) 10 1) 1 j := fun j hj => aMd_lo _ _ hj
      refine ⟨⟨?_, ?_, ?_, ?_, ?_, ?_, ?_⟩, fun _ => ⟨?_, ?_, fun _ => ⟨?_, ?_, ?_⟩⟩, fun q => ?_⟩
      · rw [lo _ (by decide)]; exact k1
      · rw [lo _ (by decide)]; exact k2
      · rw [lo _ (by decide)]; exact k3
      · rw [lo _ (by decide)]; rfl
      · rw [lo _ (by decide)]; exact k5
      · rw [lo _ (by decide)]; exact k6
      · rw [lo _ (by decide)]; exact k7
      · rw [lo _ (by decide)]
        show o 15 = nI (U 7)
        rw [k8, k14]; rfl
      · rw [lo _ (by decide)]; rfl
      · show (if 0 ≤ b ∧ b ≤ 31 then o 16 ^^^ (1 <<< ((31 - b) &&& 31)) else o 16) = _
        unfold aMd
        by_cases q : 0 ≤ b ∧ b ≤ 31
        · rw [if_pos q, if_pos q, su_s, nI_nat, k10]; rfl
        · rw [if_neg q, if_neg q, k10]; rfl
      · rw [lo _ (by decide)]; rfl
      · rw [lo _ (by decide)]; exact k12
      · rw [lo _ (by decide)] at q
        have q' : U 6 = 1 := q
        rw [k13] at q'
        cases q'
    · intro k hk
      rw [aMd_lo _ _ (by omega), aCt_c _ _ hk, su_c _ _ _ (by decide) hk, su_c _ _ _ (by decide) hk, su_c _ _ _ (by decide) hk]
theorem wrong_21 {n : Nat} (hn : 50 ≤ n) {T : Nat → Nat} {a22 : Nat → Int32} (T0 : Nat) (t1 : a22 1 = nI (T 1)) (t1b : T 1 ≤ 15) (t3 : a22 3 = nI (T 3)) (t3b : T 3 ≤ 1) (U : Nat → Nat) (o a : Nat → Int32) (c : Nat → Nat) (y : Nat) (hy : y < 256) (hy0 : y ≠ 0) (p : Int32) (h1 : U 1 = 1 ∨ U 1 = 2) (h3 : U 3 + 1 < 2 ^ 31) (h4 : U 4 ≤ 1) (h10 : U 10 = 0) (hO : jO U o) (hc : cC c a) : ∃ (o' a' : Nat → Int32) (d : Nat → Nat), f_X6_faceWrong_21 n o a22 a (nI y) p = some (nI (aV y (aH4 T y U)), o', a') ∧ cO T0 (aH4 T y U) o' ∧ (∀ k, k < 14 → aH4 T y U (13 + k) = U (13 + k) + d k) ∧ cC (fun k => c k + d k) a' := by
  obtain ⟨⟨k1, k2, k3, k4, k5, k6, k7⟩, k8, k9, k10, k11, k12, k13, k14⟩ := id hO
  unfold f_X6_faceWrong_21 b_X6_faceWrong_21_18
  rcases h1 with h1 | h1
  · rw [if_neg (by rw [k1, h1]; decide), if_pos (by rw [k1, h1]; rfl)]
    have e4 : aH4 T y U = aTn 0 U := by unfold aH4 aNr; rw [if_pos h1, if_neg hy0]
    rw [e4]
    unfold b_X6_faceWrong_21_39
    obtain ⟨a', e1, e2⟩ := become_21 o a c 1 0 0 p rfl (by decide) (by decide) (show o 7 = nI 1 by rw [k1, h1]) hc
    rw [e1, Option.bind_some]
    refine ⟨_, _, tnC 0 1, ?_, cO_tn ⟨k2, k3, k4, k5, k6⟩, ?_, e2⟩
    · unfold aV; rw [if_neg hy0, if_pos (aTn_1 0 U)]; rfl
    · intro k hk; rw [aTn_c _ _ hk, h1]
  · have e4 : aH4 T y U = aSu T y U := by unfold aH4; rw [if_neg (by omega)]
    rw [if_pos (by rw [k1, h1]; rfl), if_neg (show ¬ upd o 9 (o 9 + 1) 7 = 1 by show ¬ o 7 = 1; rw [k1, h1]; decide), e4, k3, nI_1, show upd o 9 (nI (U 3 + 1)) 9 = nI (U 3 + 1) from rfl, t1, show upd o 9 (nI (U 3 + 1)) 10 = o 10 from rfl, k4, t3]
    have hO2 : jO (su U 3 (U 3 + 1)) (upd o 9 (nI (U 3 + 1))) := ⟨⟨k1, k2, rfl, k4, k5, k6, k7⟩, k8, k9, k10, k11, k12, k13, k14⟩
    unfold aSu
    rw [if_neg hy0]
    by_cases g : U 3 + 1 < T 1
    · rw [if_pos (nI_lt g (by omega)), if_pos g]
      have fin : ∀ b, (b = -1 ∨ 0 ≤ b) → ∃ (o' a' : Nat → Int32) (d : Nat → Nat), b_X6_faceWrong_21_83 n (upd o 9 (nI (U 3 + 1))) a22 a b = some (nI (aV y (aWr b (su U 3 (U 3 + 1)))), o', a') ∧ cO T0 (aWr b (su U 3 (U 3 + 1))) o' ∧ (∀ k, k < 14 → aWr b (su U 3 (U 3 + 1)) (13 + k) = U (13 + k) + d k) ∧ cC (fun k => c k + d k) a' := by
        intro b hb
        obtain ⟨o', a', d, e1, e2, e3, e5⟩ := wrong83_21 (n := n) a22 T0 _ _ a c b hb (show su U 3 (U 3 + 1) 1 = 2 from h1) hO2 hc
        refine ⟨o', a', d, ?_, e2, fun k hk => by rw [e3 k hk, su_c _ _ _ (by decide) hk], e5⟩
        rw [e1]
        have ev : (if b = -1 then (2 : Int32) else 1) = nI (aV y (aWr b (su U 3 (U 3 + 1)))) := by
          unfold aV
          rw [if_neg hy0, aWr_1, if_neg (show ¬ su U 3 (U 3 + 1) 1 = 0 by show ¬ U 1 = 0; omega), aWr_10]
          by_cases q : b = -1
          · rw [if_pos q, if_pos q]; rfl
          · rw [if_neg q, if_neg q]; rfl
        rw [ev]
      by_cases m : U 4 = 1
      · rw [if_pos (by rw [m]; rfl)]
        by_cases m2 : T 3 = 1
        · rw [if_pos (by rw [m2]; rfl), if_pos ⟨m, m2⟩]
          unfold b_X6_faceWrong_21_70
          rw [if_neg one_ne, bitOf_is hn hy, Option.bind_some]
          exact fin _ (fnd_ok hy)
        · rw [if_neg (fun z => m2 ((nI_eq1 (by omega)).mp z)), if_neg (fun z => m2 z.2)]
          unfold b_X6_faceWrong_21_69 b_X6_faceWrong_21_70
          rw [if_pos rfl]
          exact fin _ (Or.inl rfl)
      · rw [if_neg (fun z => m ((nI_eq1 (by omega)).mp z)), if_neg (fun z => m z.1)]
        unfold b_X6_faceWrong_21_69 b_X6_faceWrong_21_70
        rw [if_pos rfl]
        exact fin _ (Or.inl rfl)
    · rw [if_neg (nI_nlt (by omega) h3), if_neg g]
      unfold b_X6_faceWrong_21_39
      obtain ⟨a', e1, e2⟩ := become_21 (upd o 9 (nI (U 3 + 1))) a c 2 0 0 p rfl (by decide) (by decide) (show o 7 = nI 2 by rw [k1, h1]) hc
      rw [e1, Option.bind_some]
      refine ⟨_, _, tnC 0 2, ?_, cO_tn (S := su U 3 (U 3 + 1)) (o := upd o 9 (nI (U 3 + 1))) ⟨k2, rfl, k4, k5, k6⟩, ?_, e2⟩
      · unfold aV; rw [if_neg hy0, if_pos (aTn_1 0 _)]; rfl
      · intro k hk; rw [aTn_c _ _ hk, su_c _ _ _ (by decide) hk, show su U 3 (U 3 + 1) 1 = 2 from h1]
/-- a row as its CHECK is judged, and its counts -/
def aHU (S : Nat → Nat) : Nat → Nat := aH3 (aSyn S) (aH2 (aSyn S) (aH1 S))
theorem aHU_lo (S : Nat → Nat) {j : Nat} (h : j < 13 ∨ 872 ≤ j) : aHU S j = aH1 S j := by
  unfold aHU aH3
  rw [ct_lo _ (by decide) j h, su_n (by omega), su_n (by omega)]
  unfold aH2
  by_cases c : aSyn S = 0
  · rw [if_pos c, ct_lo _ (by decide) j h]
  · rw [if_neg c]
theorem aHU_c (S : Nat → Nat) {k : Nat} (hk : k < 14) : aHU S (13 + k) = S (13 + k) + (if aSyn S = 0 then dl k 0 else 0) + dl k 8 := by
  have e1 : aH1 S (13 + k) = S (13 + k) := by
    unfold aH1
    rw [su_c _ _ _ (by decide) hk, su_c _ _ _ (by decide) hk, su_c _ _ _ (by decide) hk, su_c _ _ _ (by decide) hk, su_c _ _ _ (by decide) hk, su_c _ _ _ (by decide) hk]
  have e2 : aH2 (aSyn S) (aH1 S) (13 + k) = S (13 + k) + (if aSyn S = 0 then dl k 0 else 0) := by
    unfold aH2
    by_cases c : aSyn S = 0
    · rw [if_pos c, if_pos c, aCt_c _ _ hk, e1]
    · rw [if_neg c, if_neg c, e1]; rfl
  unfold aHU aH3
  rw [aCt_c _ _ hk, su_n (by omega), su_n (by omega), e2]
theorem aHd_is (T S : Nat → Nat) (h : 40 ≤ S 8 + 1) : aHd T S = su (aH4 T (aSyn S) (aHU S)) (776 + 3 * (S 21 % 32) + 2) (aV (aSyn S) (aH4 T (aSyn S) (aHU S))) := by unfold aHd; rw [if_pos h]; rfl
theorem judge_21 {n : Nat} (hn : 50 ≤ n) {T : Nat → Nat} {a22 : Nat → Int32} (T0 : Nat) (hT : ∀ k, k < 7 → a22 k = nI (T k)) (tb : T 1 ≤ 15 ∧ T 2 ≤ 15 ∧ T 3 ≤ 1) (S : Nat → Nat) (o a ow : Nat → Int32) (jw : Int64) (h1 : S 1 = 1 ∨ S 1 = 2) (h7 : S 7 = 0) (h8 : 40 ≤ S 8 + 1) (h2 : S 2 + 1 < 2 ^ 31) (h3 : S 3 + 1 < 2 ^ 31) (h4 : S 4 ≤ 1) (h27 : S 27 < 2 ^ 32) (h28 : S 28 < 256) (hO : o 7 = nI (S 1) ∧ o 8 = nI (S 2) ∧ o 9 = nI (S 3) ∧ o 10 = nI (S 4) ∧ o 12 = nI (S 873) ∧ o 13 = nI (S 872) ∧ o 14 = nI (S 874)) (h11 : o 11 = 0) (hc : cC (fun k => S (13 + k)) a) (hV : cV S ow jw) : ∃ o' a', f_X6_judge_21 n o a22 a ow jw (nI (S 0)) = some (o', a') ∧ cO T0 (aHd T S) o' ∧ cC (fun k => aHd T S (13 + k)) a' := by
  obtain ⟨k1, k2, k3, k4, k5, k6, k7⟩ := hO
  have hm : S 21 % 32 < 32 := Nat.mod_lt _ (by decide)
  have l : ∀ j, (j < 13 ∨ 872 ≤ j) → aHU S j = aH1 S j := fun j hj => aHU_lo S hj
  have hJ : jO (aHU S) (upd (upd (upd (upd o 15 0) 16 (nI (S 27))) 17 0) 18 (nI (S 0) - 40)) := by
    unfold jO
    rw [l 1 (by decide), l 2 (by decide), l 3 (by decide), l 4 (by decide), l 873 (by decide), l 872 (by decide), l 874 (by decide), l 11 (by decide), l 10 (by decide), l 12 (by decide), l 6 (by decide), l 7 (by decide)]
    exact ⟨⟨k1, k2, k3, k4, k5, k6, k7⟩, rfl, h11, rfl, rfl, nI_m40 _, rfl, h7⟩
  have q1 : aHU S 1 = S 1 := l 1 (by decide)
  have hy := aSyn_lt h28
  unfold f_X6_judge_21
  have es : f_X10_syndromeNow_24 ow jw = some (nI (aSyn S)) := by
    unfold f_X10_syndromeNow_24
    rw [hV.1, show (85 : Int32) = nI 85 from rfl, nI_xor, syn_is h28]
    rfl
  have eh : f_X10_headerNow_24 ow jw = some (nI (S 27)) := by
    unfold f_X10_headerNow_24
    rw [hV.2.2, show xul (lN (S 27 * 256 + S 28)) 8 = lN ((S 27 * 256 + S 28) / 2 ^ 8) from xul_is (k := 8) (by omega) (by decide), lN_i, show (S 27 * 256 + S 28) / 2 ^ 8 = S 27 by omega]
  rw [es, eh, Option.bind_some, Option.bind_some, aHd_is T S h8]
  have fin : ∀ (o' a' : Nat → Int32) (d : Nat → Nat), cO T0 (aH4 T (aSyn S) (aHU S)) o' → (∀ k, k < 14 → aH4 T (aSyn S) (aHU S) (13 + k) = aHU S (13 + k) + d k) → cC (fun k => S (13 + k) + (if aSyn S = 0 then dl k 0 else 0) + d k) a' → cO T0 (su (aH4 T (aSyn S) (aHU S)) (776 + 3 * (S 21 % 32) + 2) (aV (aSyn S) (aH4 T (aSyn S) (aHU S)))) o' ∧ cC (fun k => su (aH4 T (aSyn S) (aHU S)) (776 + 3 * (S 21 % 32) + 2) (aV (aSyn S) (aH4 T (aSyn S) (aHU S))) (13 + k)) (upd a' 8 (a' 8 + 1)) := by
    intro o' a' d g1 g2 g3
    refine ⟨cO_cg g1 (fun j hj => su_n (by omega)), cC_cg (cC_ct g3 (j := 8) (by decide)) (fun k hk => ?_)⟩
    show su (aH4 T (aSyn S) (aHU S)) (776 + 3 * (S 21 % 32) + 2) (aV (aSyn S) (aH4 T (aSyn S) (aHU S))) (13 + k) = S (13 + k) + (if aSyn S = 0 then dl k 0 else 0) + d k + dl k 8
    rw [su_c _ _ _ (by omega) hk, g2 k hk, aHU_c S hk]
    omega
  by_cases c : aSyn S = 0
  · rw [if_pos (by rw [c]; rfl)]
    obtain ⟨o', a', d, e1, e2, e3, e4⟩ := accept_21 (T := T) T0 (hT 2 (by decide)) tb.2.1 (aHU S) _ a _ (nI (S 0)) (by rw [q1]; exact h1) (by rw [l 2 (by decide)]; exact h2) hJ hc
    rw [e1, Option.bind_some]
    unfold b_X6_judge_21_55
    refine ⟨_, _, rfl, fin o' a' d (by rw [c]; exact e2) (by rw [c]; exact e3) (cC_cg e4 (fun k hk => by rw [if_pos c]))⟩
  · rw [if_neg (fun z => c ((nI_eq0 (by omega)).mp z))]
    obtain ⟨o', a', d, e1, e2, e3, e4⟩ := wrong_21 hn (T := T) T0 (hT 1 (by decide)) tb.1 (hT 3 (by decide)) tb.2.2 (aHU S) _ a _ (aSyn S) hy c (nI (S 0)) (by rw [q1]; exact h1) (by rw [l 3 (by decide)]; exact h3) (by rw [l 4 (by decide)]; exact h4) (l 10 (by decide)) hJ hc
    rw [e1, Option.bind_some]
    unfold b_X6_judge_21_55
    refine ⟨_, _, rfl, fin o' a' d e2 e3 (cC_cg e4 (fun k hk => by rw [if_neg c]; rfl))⟩
