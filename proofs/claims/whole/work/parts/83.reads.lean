/-! what the receiver keeps, told -/
theorem kept_is (p : Int32) {tot N : Nat} (ht : tot < 2 ^ 30) (hN : N < 2 ^ 30) (q : Int32) (hq : q = nI N) : f_X12_isKept p (nI tot) q = some (if nI (tot - N) ≤ p ∧ p < nI tot then 1 else 0) := by
  subst hq
  unfold f_X12_isKept
  by_cases c : p < 0
  · rw [if_pos c, if_neg (fun z => absurd c (Int32.not_lt.mpr (Int32.le_trans (nI_pos' (by omega)) z.1)))]
  · obtain ⟨k, hk, rfl⟩ := nI_of c
    rw [if_neg c]
    by_cases d : nI tot ≤ nI k
    · rw [if_pos d, if_neg (fun z => absurd z.2 (Int32.not_lt.mpr d))]
    · have d' : k < tot := by
        rcases Nat.lt_or_ge k tot with h | h
        · exact h
        · exact absurd (nI_le h hk) d
      rw [if_neg d]
      have e : nI k < nI tot - nI N ↔ k < tot - N := by
        rw [Int32.lt_iff_toInt_lt, pk_sub_toInt ht hN, nI_toInt hk]
        omega
      by_cases g : k < tot - N
      · rw [if_pos (e.mpr g), if_neg (fun z => absurd ((nI_leI (by omega) hk).mp z.1) (by omega))]
      · rw [if_neg (fun z => g (e.mp z)), if_pos ⟨nI_le (by omega) hk, nI_lt d' (by omega)⟩]
theorem keeps_9 (o : Nat → Int32) (p : Int32) {tot : Nat} (ht : tot < 2 ^ 30) (h0 : o 0 = 12) (h2 : o 2 = nI tot) : f_X7_keeps_9 o p = some (if nI (tot - 12) ≤ p ∧ p < nI tot then 1 else 0) := by
  have e : f_X7_firstKept_9 o = some (nI (tot - 12)) := by
    unfold f_X7_firstKept_9
    rw [h0, h2]
    have e : (0 : Int32) < nI tot - 12 ↔ 12 < tot := by
      rw [show (12 : Int32) = nI 12 from rfl, Int32.lt_iff_toInt_lt, pk_sub_toInt ht (by decide)]
      show (0 : Int) < _ ↔ _
      omega
    by_cases c : 12 < tot
    · rw [if_pos (e.mpr c), show nI tot - 12 = nI (tot - 12) from pk_sub (b := 12) (by omega)]
    · rw [if_neg (fun z => c (e.mp z)), show tot - 12 = 0 by omega]; rfl
  unfold f_X7_keeps_9
  rw [e, Option.bind_some, h2]
  by_cases c : p < nI (tot - 12)
  · rw [if_pos c, if_neg (fun z => absurd c (Int32.not_lt.mpr z.1))]
  · rw [if_neg c]
    by_cases d : nI tot ≤ p
    · rw [if_pos d, if_neg (fun z => absurd z.2 (Int32.not_lt.mpr d))]
    · rw [if_neg d, if_pos ⟨Int32.not_lt.mp c, Int32.not_le.mp d⟩]
theorem slot_9 (o : Nat → Int32) {k : Nat} (hk : k < 2 ^ 31) (h0 : o 0 = 12) : f_X7_slotOf_9 o (nI k) = some (nI (k % 12)) := by
  unfold f_X7_slotOf_9
  rw [if_neg (nI_pos hk), h0, if_pos (by decide), show xnz 12 = true from by decide, cond_true, show nI k - nI k / 12 * 12 = nI (k % 12) from pk_rem (d := 12) hk (by decide) (by decide)]
theorem entry_9 (o a : Nat → Int32) {k c : Nat} (hk : k < 2 ^ 31) (hc : c < 3) (q : Int32) (hq : q = nI c) (h0 : o 0 = 12) : f_X7_entry_9 o a (nI k) q = some (a (3 * (k % 12) + c)) := by
  subst hq
  have hm : k % 12 < 12 := Nat.mod_lt _ (by decide)
  unfold f_X7_entry_9
  rw [slot_9 o hk h0, Option.bind_some, show (3 : Int32) * nI (k % 12) = nI (3 * (k % 12)) from pk_mul 3 _, nI_add, if_neg (nI_pos (by omega)), if_neg (show ¬ (36 : Int32) ≤ nI (3 * (k % 12) + c) from nI_ge (b := 36) (by omega) (by decide)), xin_t (show 3 * (k % 12) + c < 36 by omega) (by decide), cond_true, nI_clamp (by omega)]
theorem keeps_11 (o : Nat → Int32) (p : Int32) {tot : Nat} (ht : tot < 2 ^ 30) (h0 : o 0 = 24) (h2 : o 2 = nI tot) : f_X7_keeps_11 o p = some (if nI (tot - 24) ≤ p ∧ p < nI tot then 1 else 0) := by
  have e : f_X7_firstKept_11 o = some (nI (tot - 24)) := by
    unfold f_X7_firstKept_11
    rw [h0, h2]
    have e : (0 : Int32) < nI tot - 24 ↔ 24 < tot := by
      rw [show (24 : Int32) = nI 24 from rfl, Int32.lt_iff_toInt_lt, pk_sub_toInt ht (by decide)]
      show (0 : Int) < _ ↔ _
      omega
    by_cases c : 24 < tot
    · rw [if_pos (e.mpr c), show nI tot - 24 = nI (tot - 24) from pk_sub (b := 24) (by omega)]
    · rw [if_neg (fun z => c (e.mp z)), show tot - 24 = 0 by omega]; rfl
  unfold f_X7_keeps_11
  rw [e, Option.bind_some, h2]
  by_cases c : p < nI (tot - 24)
  · rw [if_pos c, if_neg (fun z => absurd c (Int32.not_lt.mpr z.1))]
  · rw [if_neg c]
    by_cases d : nI tot ≤ p
    · rw [if_pos d, if_neg (fun z => absurd z.2 (Int32.not_lt.mpr d))]
    · rw [if_neg d, if_pos ⟨Int32.not_lt.mp c, Int32.not_le.mp d⟩]
theorem slot_11 (o : Nat → Int32) {k : Nat} (hk : k < 2 ^ 31) (h0 : o 0 = 24) : f_X7_slotOf_11 o (nI k) = some (nI (k % 24)) := by
  unfold f_X7_slotOf_11
  rw [if_neg (nI_pos hk), h0, if_pos (by decide), show xnz 24 = true from by decide, cond_true, show nI k - nI k / 24 * 24 = nI (k % 24) from pk_rem (d := 24) hk (by decide) (by decide)]
theorem entry_11 (o a : Nat → Int32) {k c : Nat} (hk : k < 2 ^ 31) (hc : c < 3) (q : Int32) (hq : q = nI c) (h0 : o 0 = 24) : f_X7_entry_11 o a (nI k) q = some (a (3 * (k % 24) + c)) := by
  subst hq
  have hm : k % 24 < 24 := Nat.mod_lt _ (by decide)
  unfold f_X7_entry_11
  rw [slot_11 o hk h0, Option.bind_some, show (3 : Int32) * nI (k % 24) = nI (3 * (k % 24)) from pk_mul 3 _, nI_add, if_neg (nI_pos (by omega)), if_neg (show ¬ (72 : Int32) ≤ nI (3 * (k % 24) + c) from nI_ge (b := 72) (by omega) (by decide)), xin_t (show 3 * (k % 24) + c < 72 by omega) (by decide), cond_true, nI_clamp (by omega)]
theorem keeps_13 (o : Nat → Int32) (p : Int32) {tot : Nat} (ht : tot < 2 ^ 30) (h0 : o 0 = 32) (h2 : o 2 = nI tot) : f_X7_keeps_13 o p = some (if nI (tot - 32) ≤ p ∧ p < nI tot then 1 else 0) := by
  have e : f_X7_firstKept_13 o = some (nI (tot - 32)) := by
    unfold f_X7_firstKept_13
    rw [h0, h2]
    have e : (0 : Int32) < nI tot - 32 ↔ 32 < tot := by
      rw [show (32 : Int32) = nI 32 from rfl, Int32.lt_iff_toInt_lt, pk_sub_toInt ht (by decide)]
      show (0 : Int) < _ ↔ _
      omega
    by_cases c : 32 < tot
    · rw [if_pos (e.mpr c), show nI tot - 32 = nI (tot - 32) from pk_sub (b := 32) (by omega)]
    · rw [if_neg (fun z => c (e.mp z)), show tot - 32 = 0 by omega]; rfl
  unfold f_X7_keeps_13
  rw [e, Option.bind_some, h2]
  by_cases c : p < nI (tot - 32)
  · rw [if_pos c, if_neg (fun z => absurd c (Int32.not_lt.mpr z.1))]
  · rw [if_neg c]
    by_cases d : nI tot ≤ p
    · rw [if_pos d, if_neg (fun z => absurd z.2 (Int32.not_lt.mpr d))]
    · rw [if_neg d, if_pos ⟨Int32.not_lt.mp c, Int32.not_le.mp d⟩]
theorem slot_13 (o : Nat → Int32) {k : Nat} (hk : k < 2 ^ 31) (h0 : o 0 = 32) : f_X7_slotOf_13 o (nI k) = some (nI (k % 32)) := by
  unfold f_X7_slotOf_13
  rw [if_neg (nI_pos hk), h0, if_pos (by decide), show xnz 32 = true from by decide, cond_true, show nI k - nI k / 32 * 32 = nI (k % 32) from pk_rem (d := 32) hk (by decide) (by decide)]
theorem entry_13 (o a : Nat → Int32) {k c : Nat} (hk : k < 2 ^ 31) (hc : c < 3) (q : Int32) (hq : q = nI c) (h0 : o 0 = 32) : f_X7_entry_13 o a (nI k) q = some (a (3 * (k % 32) + c)) := by
  subst hq
  have hm : k % 32 < 32 := Nat.mod_lt _ (by decide)
  unfold f_X7_entry_13
  rw [slot_13 o hk h0, Option.bind_some, show (3 : Int32) * nI (k % 32) = nI (3 * (k % 32)) from pk_mul 3 _, nI_add, if_neg (nI_pos (by omega)), if_neg (show ¬ (96 : Int32) ≤ nI (3 * (k % 32) + c) from nI_ge (b := 96) (by omega) (by decide)), xin_t (show 3 * (k % 32) + c < 96 by omega) (by decide), cond_true, nI_clamp (by omega)]
theorem k_turn {S : Nat → Nat} {o a o44 : Nat → Int32} (ht : S 20 < 2 ^ 30) (h : gT S o a) (p1 p2 : Int32) : ∃ x, f_X11_turn_0 o a p1 p2 = some x ∧ f_X12_turn_44 o44 (sn S) p1 p2 = some (x, upd o44 0 0) := by
  obtain ⟨⟨h0, h2, h3⟩, h4⟩ := h
  unfold f_X11_turn_0 f_X12_turn_44
  rw [isW, isIn_w p2 0 2 0 2 rfl rfl, keeps_11 o p1 ht h0 h2, sn_ap, kept_is p1 ht (show 24 < 2 ^ 30 by decide) 24 rfl]
  simp only [Option.bind_some]
  by_cases c : 0 ≤ p2 ∧ p2 ≤ 2
  · rw [if_pos c, if_neg one_ne, if_neg one_ne]
    by_cases d : nI (S 20 - 24) ≤ p1 ∧ p1 < nI (S 20)
    · rw [if_pos d, if_neg one_ne, if_neg one_ne]
      obtain ⟨k, hk, rfl⟩ := nI_of (Int32.not_lt.mpr (Int32.le_trans (nI_pos' (show S 20 - 24 < 2 ^ 31 by omega)) d.1))
      have hk2 : k < S 20 := (nI_ltI hk (by omega)).mp d.2
      obtain ⟨q, -, hq, rfl⟩ := i32_in (a := 0) (b := 2) (by decide) c (by decide)
      have hm : k % 24 < 24 := Nat.mod_lt _ (by decide)
      have hm2 : k % 24 ≤ k := Nat.mod_le _ _
      rw [entry_11 o a hk (show q < 3 by omega) _ rfl h0, Option.bind_some, show nI k - nI k / 24 * 24 = nI (k % 24) from pk_rem (d := 24) hk (by decide) (by decide), show (3 : Int32) * nI (k % 24) = nI (3 * (k % 24)) from pk_mul 3 _, show (704 : Int32) + nI (3 * (k % 24)) = nI (704 + 3 * (k % 24)) from nI_add 704 _, nI_add, xin_t (show 704 + 3 * (k % 24) + q < 875 by omega) (by decide), cond_true, nI_clamp (by omega), sn_ap, h4 (k % 24) q hm (by omega) (by omega)]
      exact ⟨_, rfl, rfl⟩
    · rw [if_neg d, if_pos rfl, if_pos rfl]
      exact ⟨_, rfl, rfl⟩
  · rw [if_neg c, if_pos rfl, if_pos rfl]
    by_cases d : nI (S 20 - 24) ≤ p1 ∧ p1 < nI (S 20)
    · rw [if_pos d, if_neg one_ne]
      exact ⟨_, rfl, rfl⟩
    · rw [if_neg d, if_pos rfl]
      exact ⟨_, rfl, rfl⟩
theorem k_judged {S : Nat → Nat} {o a o44 : Nat → Int32} (ht : S 21 < 2 ^ 30) (h : gJ S o a) (p1 p2 : Int32) : ∃ x, f_X11_judged_0 o a p1 p2 = some x ∧ f_X12_judged_44 o44 (sn S) p1 p2 = some (x, upd o44 0 0) := by
  obtain ⟨⟨h0, h2, h3⟩, h4⟩ := h
  unfold f_X11_judged_0 f_X12_judged_44
  rw [isW, isIn_w p2 0 2 0 2 rfl rfl, keeps_13 o p1 ht h0 h2, sn_ap, kept_is p1 ht (show 32 < 2 ^ 30 by decide) 32 rfl]
  simp only [Option.bind_some]
  by_cases c : 0 ≤ p2 ∧ p2 ≤ 2
  · rw [if_pos c, if_neg one_ne, if_neg one_ne]
    by_cases d : nI (S 21 - 32) ≤ p1 ∧ p1 < nI (S 21)
    · rw [if_pos d, if_neg one_ne, if_neg one_ne]
      obtain ⟨k, hk, rfl⟩ := nI_of (Int32.not_lt.mpr (Int32.le_trans (nI_pos' (show S 21 - 32 < 2 ^ 31 by omega)) d.1))
      have hk2 : k < S 21 := (nI_ltI hk (by omega)).mp d.2
      obtain ⟨q, -, hq, rfl⟩ := i32_in (a := 0) (b := 2) (by decide) c (by decide)
      have hm : k % 32 < 32 := Nat.mod_lt _ (by decide)
      have hm2 : k % 32 ≤ k := Nat.mod_le _ _
      rw [entry_13 o a hk (show q < 3 by omega) _ rfl h0, Option.bind_some, show nI k - nI k / 32 * 32 = nI (k % 32) from pk_rem (d := 32) hk (by decide) (by decide), show (3 : Int32) * nI (k % 32) = nI (3 * (k % 32)) from pk_mul 3 _, show (776 : Int32) + nI (3 * (k % 32)) = nI (776 + 3 * (k % 32)) from nI_add 776 _, nI_add, xin_t (show 776 + 3 * (k % 32) + q < 875 by omega) (by decide), cond_true, nI_clamp (by omega), sn_ap, h4 (k % 32) q hm (by omega) (by omega)]
      exact ⟨_, rfl, rfl⟩
    · rw [if_neg d, if_pos rfl, if_pos rfl]
      exact ⟨_, rfl, rfl⟩
  · rw [if_neg c, if_pos rfl, if_pos rfl]
    by_cases d : nI (S 21 - 32) ≤ p1 ∧ p1 < nI (S 21)
    · rw [if_pos d, if_neg one_ne]
      exact ⟨_, rfl, rfl⟩
    · rw [if_neg d, if_pos rfl]
      exact ⟨_, rfl, rfl⟩
theorem alike_15 {n T0 s : Nat} (hT0 : T0 ≤ 48) {o4 a7 : Nat → Int32} {sy : Nat → Nat → Nat} (ald : Nat → Int32) (st0 : Nat) (hst : st0 + T0 ≤ 576) (ly : Nat → Nat) (hs : s < 64) (eb : ∀ i, i < T0 → sy s i < 256 ∧ a7 (48 * s + i) = sb (sy s i)) (hl : ∀ i, i < T0 → ly i < 256 ∧ ald (st0 + i) = sb (ly i)) :
    ∀ (m k i : Nat), i + m = T0 → m < k → lk (sy s) ly i = true → ∃ o, l_X8_isLoadLike_4_15_37 n o4 a7 ald (nI st0) (nI T0) (nI (48 * s)) k (nI i) = some o ∧ Sum.elim (fun z => some z) (fun _ => some (1 : Int32)) o = some (if lk (sy s) ly T0 = true then 1 else 0) := by
  intro m
  induction m with
  | zero =>
    intro k i hi hk hv
    obtain ⟨k, rfl⟩ : ∃ q, k = q + 1 := ⟨k - 1, by omega⟩
    rw [l_X8_isLoadLike_4_15_37, if_pos (nI_le (by omega) (by omega)), if_pos (show lk (sy s) ly T0 = true by rw [show T0 = i by omega]; exact hv)]
    exact ⟨_, rfl, rfl⟩
  | succ m ih =>
    intro k i hi hk hv
    obtain ⟨k, rfl⟩ : ∃ q, k = q + 1 := ⟨k - 1, by omega⟩
    rw [l_X8_isLoadLike_4_15_37, if_neg (nI_ge (by omega) (by omega)), show nI (48 * s) + nI i = nI (48 * s + i) from nI_add _ _, show nI st0 + nI i = nI (st0 + i) from nI_add _ _, xin_t (show 48 * s + i < 3072 by omega) (by decide), xin_t (show st0 + i < 576 by omega) (by decide), cond_true, cond_true, nI_clamp (by omega), nI_clamp (by omega), (eb i (by omega)).2, (hl i (by omega)).2, nI_1]
    by_cases c : sy s i = ly i
    · rw [if_pos (by rw [c])]
      exact ih k (i + 1) (by omega) (by omega) (by rw [lk, hv, c]; simp)
    · rw [if_neg (fun z => c (sb_inj (eb i (by omega)).1 (hl i (by omega)).1 z)), if_neg (fun z => c ((lk_iff _ _ _).mp z i (by omega)))]
      exact ⟨_, rfl, rfl⟩
theorem first_15 {n T0 sc hs : Nat} (hn : 80 ≤ n) (hT0 : T0 ≤ 48) {o4 o44 a6 a7 a49 : Nat → Int32} {j5 : Int64} {hd : Nat → Int32} {sy : Nat → Nat → Nat} (hS : iS T0 sc hs hd sy o4 j5 a6 a7 o44 a49) (ald : Nat → Int32) (x : Int32) (st0 : Nat) (hst : st0 + T0 ≤ 576) (ly : Nat → Nat) (hl : ∀ i, i < T0 → ly i < 256 ∧ ald (st0 + i) = sb (ly i)) (p3 p4 : Int32) (e3 : p3 = nI st0) (e4 : p4 = nI T0) : f_X8_firstLike_4_15 n o4 a6 a7 ald x p3 p4 = some (aFn T0 hd sy x ly sc 0) := by
  subst e3; subst e4
  obtain ⟨s1, s2, s3, s4, s5⟩ := hS
  have like : ∀ s, s < sc → f_X8_isLoadLike_4_15 n o4 a7 ald (nI s) (nI st0) (nI T0) = some (if lk (sy s) ly T0 = true then 1 else 0) := by
    intro s hs
    obtain ⟨w1, w2, w3, w4⟩ := s5 s hs
    unfold f_X8_isLoadLike_4_15
    rw [if_neg (nI_pos (by omega)), show (576 : Int32) - nI st0 = nI (576 - st0) from pk_sub (a := 576) (by omega), if_neg (nI_nlt (by omega) (by omega)), show nI s * 48 = nI (48 * s) by rw [show (48 : Int32) = nI 48 from rfl, pk_mul, Nat.mul_comm], show (3072 : Int32) - nI (48 * s) = nI (3072 - 48 * s) from pk_sub (a := 3072) (by omega), if_pos (nI_le (by omega) (by omega))]
    obtain ⟨o, q1, q2⟩ := alike_15 (n := n) hT0 (o4 := o4) ald st0 hst ly (by omega) (fun i hi => ⟨(w4 i hi).1, (w4 i hi).2.1⟩) hl T0 n 0 (by omega) (by omega) rfl
    have q1' : l_X8_isLoadLike_4_15_37 n o4 a7 ald (nI st0) (nI T0) (nI (48 * s)) n 0 = some o := q1
    rw [q1', Option.bind_some]
    exact q2
  have loop : ∀ (m k s : Nat), s + m = sc → m < k → ∃ o, l_X8_firstLike_4_15_3 n o4 a6 a7 ald x (nI st0) (nI T0) k (nI s) = some o ∧ Sum.elim (fun z => some z) (fun _ => some (-1)) o = some (aFn T0 hd sy x ly m s) := by
    intro m
    induction m with
    | zero =>
      intro k s hs hk
      obtain ⟨k, rfl⟩ : ∃ q, k = q + 1 := ⟨k - 1, by omega⟩
      rw [l_X8_firstLike_4_15_3, s1, if_pos (nI_le (by omega) (by omega))]
      exact ⟨_, rfl, rfl⟩
    | succ m ih =>
      intro k s hs hk
      obtain ⟨k, rfl⟩ : ∃ q, k = q + 1 := ⟨k - 1, by omega⟩
      obtain ⟨w1, w2, w3, w4⟩ := s5 s (by omega)
      rw [l_X8_firstLike_4_15_3, s1, if_neg (nI_ge (by omega) (by omega)), if_neg (show ¬ 64 ≤ nI s from nI_ge (b := 64) (by omega) (by decide)), xin_t (show s < 64 by omega) (by decide), cond_true, nI_clamp (by omega), w1, like s (by omega), Option.bind_some, nI_1, aFn]
      by_cases c : hd s = x
      · rw [if_pos c]
        by_cases d : lk (sy s) ly T0 = true
        · rw [if_pos d, if_neg one_ne, if_pos ⟨c, d⟩]
          exact ⟨_, rfl, rfl⟩
        · rw [if_neg d, if_pos rfl, if_neg (fun z => d z.2)]
          exact ih k (s + 1) (by omega) (by omega)
      · rw [if_neg c, if_neg (fun z => c z.1)]
        exact ih k (s + 1) (by omega) (by omega)
  unfold f_X8_firstLike_4_15
  obtain ⟨o, q1, q2⟩ := loop sc n 0 (by omega) (by omega)
  have q1' : l_X8_firstLike_4_15_3 n o4 a6 a7 ald x (nI st0) (nI T0) n 0 = some o := q1
  rw [q1', Option.bind_some]
  exact q2
theorem cellAt_is {S : Nat → Nat} (ht : S 16 < 2 ^ 30) (o44 : Nat → Int32) (p1 : Int32) : f_X12_cellAt_44 o44 (sn S) p1 = some (if nI (S 16 - 12) ≤ p1 ∧ p1 < nI (S 16) then 80 + 52 * (p1 - p1 / 12 * 12) else -1) := by
  unfold f_X12_cellAt_44
  rw [sn_ap, kept_is p1 ht (show 12 < 2 ^ 30 by decide) 12 rfl, Option.bind_some]
  by_cases d : nI (S 16 - 12) ≤ p1 ∧ p1 < nI (S 16)
  · rw [if_pos d, if_neg one_ne, if_pos d]
  · rw [if_neg d, if_pos rfl, if_neg d]
/-- a number of one that is kept -/
theorem kept_k {tot N : Nat} (ht : tot < 2 ^ 30) {p : Int32} (d : nI (tot - N) ≤ p ∧ p < nI tot) : ∃ k, k < tot ∧ tot - N ≤ k ∧ p = nI k := by
  obtain ⟨k, hk, rfl⟩ := nI_of (Int32.not_lt.mpr (Int32.le_trans (nI_pos' (show tot - N < 2 ^ 31 by omega)) d.1))
  exact ⟨k, (nI_ltI hk (by omega)).mp d.2, (nI_leI (by omega) hk).mp d.1, rfl⟩
theorem at_is {k : Nat} (hk : k < 2 ^ 30) : (80 : Int32) + 52 * (nI k - nI k / 12 * 12) = nI (80 + 52 * (k % 12)) := by
  rw [show nI k - nI k / 12 * 12 = nI (k % 12) from pk_rem (d := 12) (by omega) (by decide) (by decide), show (52 : Int32) * nI (k % 12) = nI (52 * (k % 12)) from pk_mul 52 _]
  exact nI_add 80 _
theorem at_ne {k : Nat} : ¬ nI (80 + 52 * (k % 12)) = -1 := by
  have hm : k % 12 < 12 := Nat.mod_lt _ (by decide)
  intro z
  have h := nI_pos' (show 80 + 52 * (k % 12) < 2 ^ 31 by omega)
  rw [z] at h
  exact absurd h (by decide)
/-- FOUND of one that is kept, on both sides -/
theorem found_is {n sc hs : Nat} (hn : 80 ≤ n) {T : Nat → Nat} (tT : T 0 ≤ 48) {S : Nat → Nat} {a1 o4 o44 a6 a7 a49 o9 a10 a15 : Nat → Int32} {j5 : Int64} {hd : Nat → Int32} {sy : Nat → Nat → Nat} (e1 : a1 0 = nI (T 0)) (hS : iS (T 0) sc hs hd sy o4 j5 a6 a7 o44 a49) (hb2 : hb S) (hg : gC (T 0) S o9 a10 a15) {k : Nat} (hk : k < S 16) (hk2 : k < 2 ^ 30) : f_X11_foundOf_0 n a1 o4 a6 a7 o9 a10 a15 (nI k) = some (aFn (T 0) hd sy (nI (S (80 + 52 * (k % 12)))) (fun i => S (80 + 52 * (k % 12) + 4 + i)) sc 0) ∧ f_X12_foundOf_44 n o44 a49 (sn S) (nI (80 + 52 * (k % 12))) = some (aFn (T 0) hd sy (nI (S (80 + 52 * (k % 12)))) (fun i => S (80 + 52 * (k % 12) + 4 + i)) sc 0) := by
  obtain ⟨⟨h0, h2, h3⟩, h4⟩ := hg
  have hm : k % 12 < 12 := Nat.mod_lt _ (by decide)
  have hm2 : k % 12 ≤ k := Nat.mod_le _ _
  obtain ⟨g1, g2, g3, g4, g5⟩ := h4 (k % 12) hm (by omega)
  constructor
  · unfold f_X11_foundOf_0 f_X5_loadStart_8
    have ee := entry_9 o9 a10 (k := k) (c := 0) (by omega) (by decide) 0 rfl h0
    rw [ee, Option.bind_some, slot_9 o9 (by omega) h0, Option.bind_some, Option.bind_some, show (48 : Int32) * nI (k % 12) = nI (48 * (k % 12)) from pk_mul 48 _, Nat.add_zero, g1, first_15 hn tT hS a15 _ (48 * (k % 12)) (by omega) (fun i => S (80 + 52 * (k % 12) + 4 + i)) (fun i hi => ⟨hb2.2.2 (k % 12) i hm (by omega), g5 i hi⟩) _ _ rfl e1, Option.bind_some]
  · exact m_found hn hS S (80 + 52 * (k % 12)) (by omega) tT (fun i hi => hb2.2.2 (k % 12) i hm (by omega)) g4
theorem k_delivered {n sc hs : Nat} (hn : 80 ≤ n) {T : Nat → Nat} (tT : T 0 ≤ 48) {S : Nat → Nat} {a1 o4 o44 a6 a7 a49 o9 a10 a15 : Nat → Int32} {j5 : Int64} {hd : Nat → Int32} {sy : Nat → Nat → Nat} (e1 : a1 0 = nI (T 0)) (hS : iS (T 0) sc hs hd sy o4 j5 a6 a7 o44 a49) (hb2 : hb S) (ht : S 16 < 2 ^ 30) (hg : gC (T 0) S o9 a10 a15) (p1 p2 : Int32) : ∃ x, f_X11_delivered_0 n a1 o4 a6 a7 o9 a10 a15 p1 p2 = some x ∧ f_X12_delivered_44 n o44 a49 (sn S) p1 p2 = some (x, upd o44 0 0) := by
  obtain ⟨⟨h0, h2, h3⟩, h4⟩ := id hg
  have hS0 : iS (T 0) sc hs hd sy o4 j5 a6 a7 (upd o44 0 0) a49 := hS
  unfold f_X11_delivered_0 f_X12_delivered_44
  rw [isW, isIn_w p2 0 3 0 3 rfl rfl, keeps_9 o9 p1 ht h0 h2, cellAt_is ht]
  simp only [Option.bind_some]
  by_cases d : nI (S 16 - 12) ≤ p1 ∧ p1 < nI (S 16)
  · obtain ⟨k, hk, hk3, rfl⟩ := kept_k ht d
    have hm : k % 12 < 12 := Nat.mod_lt _ (by decide)
    have hm2 : k % 12 ≤ k := Nat.mod_le _ _
    obtain ⟨g1, g2, g3, g4, g5⟩ := h4 (k % 12) hm (by omega)
    rw [if_pos d, if_pos d, at_is (by omega), if_neg at_ne]
    by_cases c : 0 ≤ p2 ∧ p2 ≤ 3
    · rw [if_pos c, if_neg one_ne, if_neg one_ne, if_neg one_ne]
      obtain ⟨f1, f2⟩ := found_is hn tT e1 hS0 hb2 hg hk (by omega)
      obtain ⟨q, -, hq, rfl⟩ := i32_in (a := 0) (b := 3) (by decide) c (by decide)
      by_cases x : q = 3
      · have x' : nI q = 3 := by rw [x]; rfl
        rw [if_pos x', if_pos x', f1, f2, Option.bind_some, Option.bind_some]
        exact ⟨_, rfl, rfl⟩
      · have x' : ¬ nI q = 3 := fun z => x ((nI_eq (b := 3) (by omega) (by decide)).mp z)
        rw [if_neg x', if_neg x', entry_9 o9 a10 (by omega) (show q < 3 by omega) _ rfl h0, Option.bind_some, nI_add, xin_t (show 80 + 52 * (k % 12) + q < 875 by omega) (by decide), cond_true, nI_clamp (by omega), sn_ap]
        have hq3 : q = 0 ∨ q = 1 ∨ q = 2 := by omega
        rcases hq3 with rfl | rfl | rfl
        · rw [Nat.add_zero, Nat.add_zero, g1]; exact ⟨_, rfl, rfl⟩
        · rw [g2]; exact ⟨_, rfl, rfl⟩
        · rw [g3]; exact ⟨_, rfl, rfl⟩
    · rw [if_neg c, if_pos rfl, if_pos rfl]
      exact ⟨_, rfl, rfl⟩
  · rw [if_neg d, if_neg d, if_pos rfl, if_pos rfl]
    by_cases c : 0 ≤ p2 ∧ p2 ≤ 3
    · rw [if_pos c, if_neg one_ne]
      exact ⟨_, rfl, rfl⟩
    · rw [if_neg c, if_pos rfl]
      exact ⟨_, rfl, rfl⟩
theorem sb_and : ∀ y, y < 256 → sb y &&& 255 = nI y := by decide +kernel
theorem k_load {T : Nat → Nat} (tT : 4 ≤ T 0 ∧ T 0 ≤ 48) {S : Nat → Nat} {a1 o44 o9 a10 a15 : Nat → Int32} (e1 : a1 0 = nI (T 0)) (hb2 : hb S) (ht : S 16 < 2 ^ 30) (hg : gC (T 0) S o9 a10 a15) (p1 p2 : Int32) : ∃ x, f_X11_load_0 a1 o9 a15 p1 p2 = some x ∧ f_X12_load_44 o44 (sn S) p1 p2 = some (x, upd o44 0 0) := by
  obtain ⟨⟨h0, h2, h3⟩, h4⟩ := id hg
  unfold f_X11_load_0 f_X12_load_44
  rw [keeps_9 o9 p1 ht h0 h2, cellAt_is ht, e1, isW]
  simp only [Option.bind_some]
  by_cases d : nI (S 16 - 12) ≤ p1 ∧ p1 < nI (S 16)
  · obtain ⟨k, hk, hk3, rfl⟩ := kept_k ht d
    have hm : k % 12 < 12 := Nat.mod_lt _ (by decide)
    have hm2 : k % 12 ≤ k := Nat.mod_le _ _
    obtain ⟨g1, g2, g3, g4, g5⟩ := h4 (k % 12) hm (by omega)
    rw [if_pos d, if_pos d, at_is (by omega), if_neg at_ne, if_neg one_ne, show nI (80 + 52 * (k % 12)) + 3 = nI (80 + 52 * (k % 12) + 3) from nI_add _ 3, xin_t (show 80 + 52 * (k % 12) + 3 < 875 by omega) (by decide), cond_true, nI_clamp (by omega), sn_ap, g4, isIn_w p2 0 (nI (T 0) - 1) 0 (Int32.toInt64 (nI (T 0) - 1)) rfl rfl, Option.bind_some]
    by_cases c : 0 ≤ p2 ∧ p2 ≤ nI (T 0) - 1
    · rw [if_pos c, if_neg one_ne, if_neg one_ne]
      have e : nI (T 0) - 1 = nI (T 0 - 1) := pk_sub (b := 1) (by omega)
      rw [e] at c
      obtain ⟨i, -, hi, rfl⟩ := i32_in (a := 0) (b := T 0 - 1) (by omega) c (by omega)
      unfold f_X5_loadByte_8 f_X5_loadStart_8
      rw [slot_9 o9 (by omega) h0, Option.bind_some, Option.bind_some, show (48 : Int32) * nI (k % 12) = nI (48 * (k % 12)) from pk_mul 48 _, nI_add, if_neg (nI_pos (by omega)), if_neg (show ¬ 576 ≤ nI (48 * (k % 12) + i) from nI_ge (b := 576) (by omega) (by decide)), xin_t (show 48 * (k % 12) + i < 576 by omega) (by decide), cond_true, nI_clamp (by omega), g5 i (by omega), sb_and _ (hb2.2.2 (k % 12) i hm (by omega)), Option.bind_some, show nI (80 + 52 * (k % 12)) + 4 = nI (80 + 52 * (k % 12) + 4) from nI_add _ 4, nI_add, xin_t (show 80 + 52 * (k % 12) + 4 + i < 875 by omega) (by decide), cond_true, nI_clamp (by omega)]
      exact ⟨_, rfl, rfl⟩
    · rw [if_neg c, if_pos rfl, if_pos rfl]
      exact ⟨_, rfl, rfl⟩
  · rw [if_neg d, if_neg d, if_pos rfl, if_pos rfl]
    exact ⟨_, rfl, rfl⟩
theorem k_field {T : Nat → Nat} {S : Nat → Nat} {o44 o9 a10 a15 : Nat → Int32} (ht : S 16 < 2 ^ 30) (hg : gC (T 0) S o9 a10 a15) (p1 p2 : Int32) : ∃ x, f_X11_field_0 o9 a10 p1 p2 = some x ∧ f_X12_field_44 o44 (sn S) p1 p2 = some (x, upd o44 0 0) := by
  obtain ⟨⟨h0, h2, h3⟩, h4⟩ := id hg
  unfold f_X11_field_0 f_X12_field_44
  rw [isW, keeps_9 o9 p1 ht h0 h2, cellAt_is ht]
  simp only [Option.bind_some]
  by_cases d : nI (S 16 - 12) ≤ p1 ∧ p1 < nI (S 16)
  · obtain ⟨k, hk, hk3, rfl⟩ := kept_k ht d
    have hm : k % 12 < 12 := Nat.mod_lt _ (by decide)
    have hm2 : k % 12 ≤ k := Nat.mod_le _ _
    obtain ⟨g1, g2, g3, g4, g5⟩ := h4 (k % 12) hm (by omega)
    have ee := entry_9 o9 a10 (k := k) (c := 0) (by omega) (by decide) 0 rfl h0
    rw [if_pos d, if_pos d, at_is (by omega), if_neg at_ne, xin_t (show 80 + 52 * (k % 12) < 875 by omega) (by decide), nI_clamp (by omega), sn_ap, ee, Nat.add_zero, g1]
    simp only [cond_true, Option.bind_some, if_neg one_ne]
    by_cases c : 0 ≤ p2 ∧ p2 ≤ 4
    · rw [if_pos c, if_neg one_ne]
      obtain ⟨q, -, hq, rfl⟩ := i32_in (a := 0) (b := 4) (by decide) c (by decide)
      have hq5 : q = 0 ∨ q = 1 ∨ q = 2 ∨ q = 3 ∨ q = 4 := by omega
      rcases hq5 with rfl | rfl | rfl | rfl | rfl
      · rw [if_pos (by decide), if_pos (by decide)]; exact ⟨_, rfl, rfl⟩
      · rw [if_neg (by decide), if_pos (by decide), if_neg (by decide), if_pos (by decide)]; exact ⟨_, rfl, rfl⟩
      · rw [if_neg (by decide), if_neg (by decide), if_pos (by decide), if_neg (by decide), if_neg (by decide), if_pos (by decide)]; exact ⟨_, rfl, rfl⟩
      · rw [if_neg (by decide), if_neg (by decide), if_neg (by decide), if_pos (by decide), if_neg (by decide), if_neg (by decide), if_neg (by decide), if_pos (by decide)]; exact ⟨_, rfl, rfl⟩
      · rw [if_neg (by decide), if_neg (by decide), if_neg (by decide), if_neg (by decide), if_neg (by decide), if_neg (by decide), if_neg (by decide), if_neg (by decide), if_pos (by decide)]; exact ⟨_, rfl, rfl⟩
    · rw [if_neg c, if_pos rfl]
      have q0 : ∀ x : Nat, x ≤ 4 → ¬ p2 = nI x := by
        intro x hx z
        rw [z] at c
        exact c ⟨nI_pos' (by omega), nI_le (b := 4) hx (by decide)⟩
      rw [if_neg (show ¬ p2 = 0 from q0 0 (by decide)), if_neg (show ¬ p2 = 1 from q0 1 (by decide)), if_neg (show ¬ p2 = 2 from q0 2 (by decide)), if_neg (show ¬ p2 = 3 from q0 3 (by decide)), if_neg (show ¬ p2 = 4 from q0 4 (by decide))]
      exact ⟨_, rfl, rfl⟩
  · rw [if_neg d, if_neg d, if_pos rfl, if_pos rfl]
    by_cases c : 0 ≤ p2 ∧ p2 ≤ 4
    · rw [if_pos c, if_neg one_ne]
      exact ⟨_, rfl, rfl⟩
    · rw [if_neg c, if_pos rfl]
      exact ⟨_, rfl, rfl⟩
theorem k_state {n : Nat} (hn : 40 ≤ n) {T : Nat → Nat} {B : Nat} {S : Nat → Nat} {a1 o44 o a ow : Nat → Int32} {jw jh : Int64} {ald : Nat → Int32} (tT : T 0 ≤ 48) (e1 : a1 0 = nI (T 0)) (hB : B < 2 ^ 30) (hW : aW (T 0) B S) (hR : cR (T 0) S o a ow jw jh ald) (p1 : Int32) : ∃ x, f_X11_state_0 a1 o ow jw p1 = some x ∧ f_X12_state_44 n o44 (sn S) p1 = some (x, upd o44 0 0) := by
  obtain ⟨⟨⟨k1, k2, k3, k4, k5, k6, k7⟩, k8, k9⟩, -, ⟨v1, v2, v3⟩, -⟩ := hR
  obtain ⟨⟨⟨w1, w2, w3, w4, w5, w6, w7⟩, g1, g2, g3, g4, g5, g6, g7, g8⟩, w8, w9, -⟩ := hW
  have s6 : S 6 = 0 ∨ S 6 = 1 := by omega
  have e4 : f_X6_loadTaken_16 a1 o = some (nI (S 7)) := by
    unfold f_X6_loadTaken_16 f_X6_loadBits_16
    rw [Option.bind_some, e1, show (8 : Int32) * nI (T 0) = nI (8 * T 0) from pk_mul 8 _]
    rcases s6 with h | h
    · rw [(k8 h).1, if_neg (nI_ge (by omega) (by omega))]
    · rw [(k9 h).1, if_pos (nI_le (by omega) (by omega)), g6 h]; rfl
  have e5 : f_X6_headTaken_16 a1 o = some (nI (S 8)) := by
    unfold f_X6_headTaken_16 f_X6_loadBits_16
    rw [Option.bind_some, Option.bind_some, e1, show (8 : Int32) * nI (T 0) = nI (8 * T 0) from pk_mul 8 _]
    rcases s6 with h | h
    · rw [(k8 h).1, if_neg (nI_ge (by omega) (by omega)), g7 h]; rfl
    · rw [(k9 h).1, if_pos (nI_le (by omega) (by omega)), pk_sub (by omega), show 8 * T 0 + S 8 - 8 * T 0 = S 8 by omega]
  have e6 : (if o 11 = 0 then some (0 : Int32) else some 1) = some (if S 6 = 0 then nI (S 9) else 0) := by
    rcases s6 with h | h
    · rw [(k8 h).2.1, if_pos h]
      have q : S 9 = 0 ∨ S 9 = 1 := by omega
      rcases q with e | e
      · rw [e]; rfl
      · rw [e]; rfl
    · rw [(k9 h).2, if_pos rfl, if_neg (by omega)]
  have e7 : Option.bind (f_X10_isFull_18 ow jw) (fun q12 => if q12 = 0 then some (-1 : Int32) else Option.bind (f_X10_syndromeNow_18 ow jw) (fun q14 => some q14)) = some (if 40 ≤ S 5 then nI (aSyn S) else -1) := by
    unfold f_X10_isFull_18 f_X10_syndromeNow_18
    rw [v1, v2]
    by_cases c : 40 ≤ S 5
    · rw [if_neg (show ¬ nI (S 5) < 40 from nI_nlt (b := 40) c (by omega)), if_pos c, Option.bind_some, if_neg one_ne, Option.bind_some, show (85 : Int32) = nI 85 from rfl, nI_xor, syn_is w9.1.2.1]
      rfl
    · rw [if_pos (show nI (S 5) < 40 from nI_lt (b := 40) (by omega) (by decide)), if_neg c, Option.bind_some, if_pos rfl]
  have e9 : (if o 12 = 0 then some (0 : Int32) else some 1) = some (nI (S 873)) := by
    rw [k5]
    have q : S 873 = 0 ∨ S 873 = 1 := by omega
    rcases q with e | e
    · rw [e]; rfl
    · rw [e]; rfl
  have m7 : (if 40 ≤ sn S 5 then Option.bind (f_X12_syndromeNow_44 n (upd o44 0 0) (sn S)) (fun q11 => some (q11, upd o44 0 0)) else some (-1, upd o44 0 0)) = some (if 40 ≤ S 5 then nI (aSyn S) else -1, upd o44 0 0) := by
    rw [m_syn hn _ _ w9.1.1, Option.bind_some, sn_ap]
    by_cases c : 40 ≤ S 5
    · rw [if_pos (show 40 ≤ nI (S 5) from nI_le (a := 40) c (by omega)), if_pos c]
    · rw [if_neg (show ¬ 40 ≤ nI (S 5) from nI_ge (b := 40) (by omega) (by decide)), if_neg c]
  have m6 : (if sn S 6 = 0 then some (sn S 9, upd o44 0 0) else some (0, upd o44 0 0)) = some (if S 6 = 0 then nI (S 9) else 0, upd o44 0 0) := by
    rw [sn_ap, sn_ap]
    rcases s6 with h | h
    · rw [if_pos (by rw [h]; rfl), if_pos h]
    · rw [if_neg (by rw [h]; decide), if_neg (by omega)]
  unfold f_X11_state_0 f_X12_state_44
  rw [e4, e5, e6, e7, e9, m6, m7]
  simp only [Option.bind_some, sn_ap, k1, k2, k3, k4, k6, v2]
  by_cases c0 : p1 = 0
  · rw [if_pos c0, if_pos c0]; exact ⟨_, rfl, rfl⟩
  rw [if_neg c0, if_neg c0]
  by_cases c1 : p1 = 1
  · rw [if_pos c1, if_pos c1]; exact ⟨_, rfl, rfl⟩
  rw [if_neg c1, if_neg c1]
  by_cases c2 : p1 = 2
  · rw [if_pos c2, if_pos c2]; exact ⟨_, rfl, rfl⟩
  rw [if_neg c2, if_neg c2]
  by_cases c3 : p1 = 3
  · rw [if_pos c3, if_pos c3]; exact ⟨_, rfl, rfl⟩
  rw [if_neg c3, if_neg c3]
  by_cases c4 : p1 = 4
  · rw [if_pos c4, if_pos c4]; exact ⟨_, rfl, rfl⟩
  rw [if_neg c4, if_neg c4]
  by_cases c5 : p1 = 5
  · rw [if_pos c5, if_pos c5]; exact ⟨_, rfl, rfl⟩
  rw [if_neg c5, if_neg c5]
  by_cases c6 : p1 = 6
  · rw [if_pos c6, if_pos c6]; exact ⟨_, rfl, rfl⟩
  rw [if_neg c6, if_neg c6]
  by_cases c7 : p1 = 7
  · rw [if_pos c7, if_pos c7]; exact ⟨_, rfl, rfl⟩
  rw [if_neg c7, if_neg c7]
  by_cases c8 : p1 = 8
  · rw [if_pos c8, if_pos c8]; exact ⟨_, rfl, rfl⟩
  rw [if_neg c8, if_neg c8]
  by_cases c9 : p1 = 9
  · rw [if_pos c9, if_pos c9]; exact ⟨_, rfl, rfl⟩
  rw [if_neg c9, if_neg c9]
  by_cases c10 : p1 = 10
  · rw [if_pos c10, if_pos c10]; exact ⟨_, rfl, rfl⟩
  · rw [if_neg c10, if_neg c10]; exact ⟨_, rfl, rfl⟩
